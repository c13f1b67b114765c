section
-- ===== PART A: goes FIRST, ahead of the names: the tables' words, and 'selects' of the private methods out of them =====
/-- a private method of a class that the tables say can be made, by its rows of tables_1 -/
def lw_okq (q : MethodName × Nat) : Prop := (q.1.cls ≠ "java/lang/invoke/MethodHandle" ∧ q.1.cls ≠ "java/lang/invoke/VarHandle") ∧ Cond.instantiable q.1.cls q.2 ∈ tables_1 ∧ Cond.privateMethod q.1 ∈ tables_1 ∧ Cond.instanceMethod q.1 ∈ tables_1
theorem lw_p0 : lw_okq (⟨"LineScript$Page", "append", "(I)Z"⟩, 3) := ⟨⟨by decide +kernel, by decide +kernel⟩, List.mem_of_getElem? (i := 22) (by decide +kernel), List.mem_of_getElem? (i := 245) (by decide +kernel), List.mem_of_getElem? (i := 246) (by decide +kernel)⟩
theorem lw_p1 : lw_okq (⟨"LineScript$Page", "firstFault", "()I"⟩, 3) := ⟨⟨by decide +kernel, by decide +kernel⟩, List.mem_of_getElem? (i := 22) (by decide +kernel), List.mem_of_getElem? (i := 257) (by decide +kernel), List.mem_of_getElem? (i := 258) (by decide +kernel)⟩
theorem lw_p2 : lw_okq (⟨"LineScript$Reader", "begin", "()V"⟩, 3) := ⟨⟨by decide +kernel, by decide +kernel⟩, List.mem_of_getElem? (i := 28) (by decide +kernel), List.mem_of_getElem? (i := 261) (by decide +kernel), List.mem_of_getElem? (i := 262) (by decide +kernel)⟩
theorem lw_p3 : lw_okq (⟨"LineScript$Reader", "takes", "(I)Z"⟩, 3) := ⟨⟨by decide +kernel, by decide +kernel⟩, List.mem_of_getElem? (i := 28) (by decide +kernel), List.mem_of_getElem? (i := 265) (by decide +kernel), List.mem_of_getElem? (i := 266) (by decide +kernel)⟩
theorem lw_p4 : lw_okq (⟨"LineScript$Reader", "takesLetter", "()Z"⟩, 3) := ⟨⟨by decide +kernel, by decide +kernel⟩, List.mem_of_getElem? (i := 28) (by decide +kernel), List.mem_of_getElem? (i := 272) (by decide +kernel), List.mem_of_getElem? (i := 273) (by decide +kernel)⟩
theorem lw_p5 : lw_okq (⟨"LineScript$Reader", "takesComma", "()Z"⟩, 3) := ⟨⟨by decide +kernel, by decide +kernel⟩, List.mem_of_getElem? (i := 28) (by decide +kernel), List.mem_of_getElem? (i := 276) (by decide +kernel), List.mem_of_getElem? (i := 277) (by decide +kernel)⟩
theorem lw_p6 : lw_okq (⟨"LineScript$Reader", "takesSemicolon", "()Z"⟩, 3) := ⟨⟨by decide +kernel, by decide +kernel⟩, List.mem_of_getElem? (i := 28) (by decide +kernel), List.mem_of_getElem? (i := 280) (by decide +kernel), List.mem_of_getElem? (i := 281) (by decide +kernel)⟩
theorem lw_p7 : lw_okq (⟨"LineScript$Reader", "sideMayEnd", "()Z"⟩, 3) := ⟨⟨by decide +kernel, by decide +kernel⟩, List.mem_of_getElem? (i := 28) (by decide +kernel), List.mem_of_getElem? (i := 284) (by decide +kernel), List.mem_of_getElem? (i := 285) (by decide +kernel)⟩
theorem lw_p8 : lw_okq (⟨"LineScript$Page", "isText", "()Z"⟩, 3) := ⟨⟨by decide +kernel, by decide +kernel⟩, List.mem_of_getElem? (i := 22) (by decide +kernel), List.mem_of_getElem? (i := 292) (by decide +kernel), List.mem_of_getElem? (i := 293) (by decide +kernel)⟩
theorem lw_p9 : lw_okq (⟨"LineScript$Reader", "mayEnd", "()Z"⟩, 3) := ⟨⟨by decide +kernel, by decide +kernel⟩, List.mem_of_getElem? (i := 28) (by decide +kernel), List.mem_of_getElem? (i := 297) (by decide +kernel), List.mem_of_getElem? (i := 298) (by decide +kernel)⟩
theorem lw_p10 : lw_okq (⟨"LineScript$Page", "readInto", "(LLineScript$Sides;)V"⟩, 3) := ⟨⟨by decide +kernel, by decide +kernel⟩, List.mem_of_getElem? (i := 22) (by decide +kernel), List.mem_of_getElem? (i := 301) (by decide +kernel), List.mem_of_getElem? (i := 302) (by decide +kernel)⟩
theorem lw_p11 : lw_okq (⟨"LineScript$Sides", "clear", "()V"⟩, 2) := ⟨⟨by decide +kernel, by decide +kernel⟩, List.mem_of_getElem? (i := 63) (by decide +kernel), List.mem_of_getElem? (i := 305) (by decide +kernel), List.mem_of_getElem? (i := 306) (by decide +kernel)⟩
theorem lw_p12 : lw_okq (⟨"LineScript$Sides", "appendLine", "(II)V"⟩, 2) := ⟨⟨by decide +kernel, by decide +kernel⟩, List.mem_of_getElem? (i := 63) (by decide +kernel), List.mem_of_getElem? (i := 310) (by decide +kernel), List.mem_of_getElem? (i := 311) (by decide +kernel)⟩
theorem lw_p13 : lw_okq (⟨"LineScript$Sides", "insert", "(III)V"⟩, 2) := ⟨⟨by decide +kernel, by decide +kernel⟩, List.mem_of_getElem? (i := 63) (by decide +kernel), List.mem_of_getElem? (i := 314) (by decide +kernel), List.mem_of_getElem? (i := 315) (by decide +kernel)⟩
theorem lw_p14 : lw_okq (⟨"LineScript", "compareAnew", "()I"⟩, 11) := ⟨⟨by decide +kernel, by decide +kernel⟩, List.mem_of_getElem? (i := 14) (by decide +kernel), List.mem_of_getElem? (i := 321) (by decide +kernel), List.mem_of_getElem? (i := 322) (by decide +kernel)⟩
theorem lw_p15 : lw_okq (⟨"LineScript$Match", "compare", "()V"⟩, 9) := ⟨⟨by decide +kernel, by decide +kernel⟩, List.mem_of_getElem? (i := 57) (by decide +kernel), List.mem_of_getElem? (i := 325) (by decide +kernel), List.mem_of_getElem? (i := 326) (by decide +kernel)⟩
def lw_privs_1 : List (MethodName × Nat) := [(⟨"LineScript$Page", "append", "(I)Z"⟩, 3), (⟨"LineScript$Page", "firstFault", "()I"⟩, 3), (⟨"LineScript$Reader", "begin", "()V"⟩, 3), (⟨"LineScript$Reader", "takes", "(I)Z"⟩, 3), (⟨"LineScript$Reader", "takesLetter", "()Z"⟩, 3), (⟨"LineScript$Reader", "takesComma", "()Z"⟩, 3), (⟨"LineScript$Reader", "takesSemicolon", "()Z"⟩, 3), (⟨"LineScript$Reader", "sideMayEnd", "()Z"⟩, 3), (⟨"LineScript$Page", "isText", "()Z"⟩, 3), (⟨"LineScript$Reader", "mayEnd", "()Z"⟩, 3), (⟨"LineScript$Page", "readInto", "(LLineScript$Sides;)V"⟩, 3), (⟨"LineScript$Sides", "clear", "()V"⟩, 2), (⟨"LineScript$Sides", "appendLine", "(II)V"⟩, 2), (⟨"LineScript$Sides", "insert", "(III)V"⟩, 2), (⟨"LineScript", "compareAnew", "()I"⟩, 11), (⟨"LineScript$Match", "compare", "()V"⟩, 9)]
theorem lw_r1 : ∀ q ∈ lw_privs_1, lw_okq q := List.forall_mem_cons.mpr ⟨lw_p0, List.forall_mem_cons.mpr ⟨lw_p1, List.forall_mem_cons.mpr ⟨lw_p2, List.forall_mem_cons.mpr ⟨lw_p3, List.forall_mem_cons.mpr ⟨lw_p4, List.forall_mem_cons.mpr ⟨lw_p5, List.forall_mem_cons.mpr ⟨lw_p6, List.forall_mem_cons.mpr ⟨lw_p7, List.forall_mem_cons.mpr ⟨lw_p8, List.forall_mem_cons.mpr ⟨lw_p9, List.forall_mem_cons.mpr ⟨lw_p10, List.forall_mem_cons.mpr ⟨lw_p11, List.forall_mem_cons.mpr ⟨lw_p12, List.forall_mem_cons.mpr ⟨lw_p13, List.forall_mem_cons.mpr ⟨lw_p14, List.forall_mem_cons.mpr ⟨lw_p15, fun _ h => absurd h List.not_mem_nil⟩⟩⟩⟩⟩⟩⟩⟩⟩⟩⟩⟩⟩⟩⟩⟩
theorem lw_p16 : lw_okq (⟨"LineScript$Match", "matchParts", "(IIIII)V"⟩, 9) := ⟨⟨by decide +kernel, by decide +kernel⟩, List.mem_of_getElem? (i := 57) (by decide +kernel), List.mem_of_getElem? (i := 329) (by decide +kernel), List.mem_of_getElem? (i := 330) (by decide +kernel)⟩
theorem lw_p17 : lw_okq (⟨"LineScript$Match", "same", "(II)Z"⟩, 9) := ⟨⟨by decide +kernel, by decide +kernel⟩, List.mem_of_getElem? (i := 57) (by decide +kernel), List.mem_of_getElem? (i := 333) (by decide +kernel), List.mem_of_getElem? (i := 334) (by decide +kernel)⟩
theorem lw_p18 : lw_okq (⟨"LineScript$Match", "keep", "(II)V"⟩, 9) := ⟨⟨by decide +kernel, by decide +kernel⟩, List.mem_of_getElem? (i := 57) (by decide +kernel), List.mem_of_getElem? (i := 337) (by decide +kernel), List.mem_of_getElem? (i := 338) (by decide +kernel)⟩
theorem lw_p19 : lw_okq (⟨"LineScript$Match", "findAnchors", "(IIII)V"⟩, 9) := ⟨⟨by decide +kernel, by decide +kernel⟩, List.mem_of_getElem? (i := 57) (by decide +kernel), List.mem_of_getElem? (i := 341) (by decide +kernel), List.mem_of_getElem? (i := 342) (by decide +kernel)⟩
theorem lw_p20 : lw_okq (⟨"LineScript$Match", "onlyPlaceOf", "(IIII)I"⟩, 9) := ⟨⟨by decide +kernel, by decide +kernel⟩, List.mem_of_getElem? (i := 57) (by decide +kernel), List.mem_of_getElem? (i := 345) (by decide +kernel), List.mem_of_getElem? (i := 346) (by decide +kernel)⟩
theorem lw_p21 : lw_okq (⟨"LineScript$Match", "keepLongestChain", "(II)Z"⟩, 9) := ⟨⟨by decide +kernel, by decide +kernel⟩, List.mem_of_getElem? (i := 57) (by decide +kernel), List.mem_of_getElem? (i := 349) (by decide +kernel), List.mem_of_getElem? (i := 350) (by decide +kernel)⟩
theorem lw_p22 : lw_okq (⟨"LineScript$Match", "measureChains", "(II)I"⟩, 9) := ⟨⟨by decide +kernel, by decide +kernel⟩, List.mem_of_getElem? (i := 57) (by decide +kernel), List.mem_of_getElem? (i := 353) (by decide +kernel), List.mem_of_getElem? (i := 354) (by decide +kernel)⟩
theorem lw_p23 : lw_okq (⟨"LineScript$Match", "matchBetweenAnchors", "(IIIII)V"⟩, 9) := ⟨⟨by decide +kernel, by decide +kernel⟩, List.mem_of_getElem? (i := 57) (by decide +kernel), List.mem_of_getElem? (i := 360) (by decide +kernel), List.mem_of_getElem? (i := 361) (by decide +kernel)⟩
theorem lw_p24 : lw_okq (⟨"LineScript$Match", "keepMost", "(IIII)V"⟩, 9) := ⟨⟨by decide +kernel, by decide +kernel⟩, List.mem_of_getElem? (i := 57) (by decide +kernel), List.mem_of_getElem? (i := 364) (by decide +kernel), List.mem_of_getElem? (i := 365) (by decide +kernel)⟩
theorem lw_p25 : lw_okq (⟨"LineScript$Common", "most", "([III[III)I"⟩, 1) := ⟨⟨by decide +kernel, by decide +kernel⟩, List.mem_of_getElem? (i := 85) (by decide +kernel), List.mem_of_getElem? (i := 368) (by decide +kernel), List.mem_of_getElem? (i := 369) (by decide +kernel)⟩
theorem lw_p26 : lw_okq (⟨"LineScript$Match", "slideGaps", "()V"⟩, 9) := ⟨⟨by decide +kernel, by decide +kernel⟩, List.mem_of_getElem? (i := 57) (by decide +kernel), List.mem_of_getElem? (i := 373) (by decide +kernel), List.mem_of_getElem? (i := 374) (by decide +kernel)⟩
theorem lw_p27 : lw_okq (⟨"LineScript$Match", "widenGap", "()V"⟩, 9) := ⟨⟨by decide +kernel, by decide +kernel⟩, List.mem_of_getElem? (i := 57) (by decide +kernel), List.mem_of_getElem? (i := 377) (by decide +kernel), List.mem_of_getElem? (i := 378) (by decide +kernel)⟩
theorem lw_p28 : lw_okq (⟨"LineScript$Match", "slideGap", "()V"⟩, 9) := ⟨⟨by decide +kernel, by decide +kernel⟩, List.mem_of_getElem? (i := 57) (by decide +kernel), List.mem_of_getElem? (i := 381) (by decide +kernel), List.mem_of_getElem? (i := 382) (by decide +kernel)⟩
theorem lw_p29 : lw_okq (⟨"LineScript$Match", "maySlide", "(I)Z"⟩, 9) := ⟨⟨by decide +kernel, by decide +kernel⟩, List.mem_of_getElem? (i := 57) (by decide +kernel), List.mem_of_getElem? (i := 385) (by decide +kernel), List.mem_of_getElem? (i := 386) (by decide +kernel)⟩
theorem lw_p30 : lw_okq (⟨"LineScript$Match", "slideOnce", "(I)V"⟩, 9) := ⟨⟨by decide +kernel, by decide +kernel⟩, List.mem_of_getElem? (i := 57) (by decide +kernel), List.mem_of_getElem? (i := 389) (by decide +kernel), List.mem_of_getElem? (i := 390) (by decide +kernel)⟩
theorem lw_p31 : lw_okq (⟨"LineScript$Script", "build", "(LLineScript$Match;LLineScript$Likeness;)V"⟩, 8) := ⟨⟨by decide +kernel, by decide +kernel⟩, List.mem_of_getElem? (i := 151) (by decide +kernel), List.mem_of_getElem? (i := 393) (by decide +kernel), List.mem_of_getElem? (i := 394) (by decide +kernel)⟩
def lw_privs_2 : List (MethodName × Nat) := [(⟨"LineScript$Match", "matchParts", "(IIIII)V"⟩, 9), (⟨"LineScript$Match", "same", "(II)Z"⟩, 9), (⟨"LineScript$Match", "keep", "(II)V"⟩, 9), (⟨"LineScript$Match", "findAnchors", "(IIII)V"⟩, 9), (⟨"LineScript$Match", "onlyPlaceOf", "(IIII)I"⟩, 9), (⟨"LineScript$Match", "keepLongestChain", "(II)Z"⟩, 9), (⟨"LineScript$Match", "measureChains", "(II)I"⟩, 9), (⟨"LineScript$Match", "matchBetweenAnchors", "(IIIII)V"⟩, 9), (⟨"LineScript$Match", "keepMost", "(IIII)V"⟩, 9), (⟨"LineScript$Common", "most", "([III[III)I"⟩, 1), (⟨"LineScript$Match", "slideGaps", "()V"⟩, 9), (⟨"LineScript$Match", "widenGap", "()V"⟩, 9), (⟨"LineScript$Match", "slideGap", "()V"⟩, 9), (⟨"LineScript$Match", "maySlide", "(I)Z"⟩, 9), (⟨"LineScript$Match", "slideOnce", "(I)V"⟩, 9), (⟨"LineScript$Script", "build", "(LLineScript$Match;LLineScript$Likeness;)V"⟩, 8)]
theorem lw_r2 : ∀ q ∈ lw_privs_2, lw_okq q := List.forall_mem_cons.mpr ⟨lw_p16, List.forall_mem_cons.mpr ⟨lw_p17, List.forall_mem_cons.mpr ⟨lw_p18, List.forall_mem_cons.mpr ⟨lw_p19, List.forall_mem_cons.mpr ⟨lw_p20, List.forall_mem_cons.mpr ⟨lw_p21, List.forall_mem_cons.mpr ⟨lw_p22, List.forall_mem_cons.mpr ⟨lw_p23, List.forall_mem_cons.mpr ⟨lw_p24, List.forall_mem_cons.mpr ⟨lw_p25, List.forall_mem_cons.mpr ⟨lw_p26, List.forall_mem_cons.mpr ⟨lw_p27, List.forall_mem_cons.mpr ⟨lw_p28, List.forall_mem_cons.mpr ⟨lw_p29, List.forall_mem_cons.mpr ⟨lw_p30, List.forall_mem_cons.mpr ⟨lw_p31, fun _ h => absurd h List.not_mem_nil⟩⟩⟩⟩⟩⟩⟩⟩⟩⟩⟩⟩⟩⟩⟩⟩
theorem lw_p32 : lw_okq (⟨"LineScript$Script", "nextKept", "(LLineScript$Match;II)I"⟩, 8) := ⟨⟨by decide +kernel, by decide +kernel⟩, List.mem_of_getElem? (i := 151) (by decide +kernel), List.mem_of_getElem? (i := 397) (by decide +kernel), List.mem_of_getElem? (i := 398) (by decide +kernel)⟩
theorem lw_p33 : lw_okq (⟨"LineScript$Script", "findChanged", "(LLineScript$Sides;LLineScript$Likeness;IIII)V"⟩, 8) := ⟨⟨by decide +kernel, by decide +kernel⟩, List.mem_of_getElem? (i := 151) (by decide +kernel), List.mem_of_getElem? (i := 401) (by decide +kernel), List.mem_of_getElem? (i := 402) (by decide +kernel)⟩
theorem lw_p34 : lw_okq (⟨"LineScript$Likeness", "fraction", "(II)F"⟩, 3) := ⟨⟨by decide +kernel, by decide +kernel⟩, List.mem_of_getElem? (i := 133) (by decide +kernel), List.mem_of_getElem? (i := 408) (by decide +kernel), List.mem_of_getElem? (i := 409) (by decide +kernel)⟩
theorem lw_p35 : lw_okq (⟨"LineScript$Likeness", "commonLetters", "(II)I"⟩, 3) := ⟨⟨by decide +kernel, by decide +kernel⟩, List.mem_of_getElem? (i := 133) (by decide +kernel), List.mem_of_getElem? (i := 415) (by decide +kernel), List.mem_of_getElem? (i := 416) (by decide +kernel)⟩
theorem lw_p36 : lw_okq (⟨"LineScript$Script", "addDropped", "(II)V"⟩, 8) := ⟨⟨by decide +kernel, by decide +kernel⟩, List.mem_of_getElem? (i := 151) (by decide +kernel), List.mem_of_getElem? (i := 425) (by decide +kernel), List.mem_of_getElem? (i := 426) (by decide +kernel)⟩
theorem lw_p37 : lw_okq (⟨"LineScript$Script", "addStep", "(IIIFI)V"⟩, 8) := ⟨⟨by decide +kernel, by decide +kernel⟩, List.mem_of_getElem? (i := 151) (by decide +kernel), List.mem_of_getElem? (i := 429) (by decide +kernel), List.mem_of_getElem? (i := 430) (by decide +kernel)⟩
theorem lw_p38 : lw_okq (⟨"LineScript$Script", "addAdded", "(LLineScript$Sides;LLineScript$Likeness;II)V"⟩, 8) := ⟨⟨by decide +kernel, by decide +kernel⟩, List.mem_of_getElem? (i := 151) (by decide +kernel), List.mem_of_getElem? (i := 438) (by decide +kernel), List.mem_of_getElem? (i := 439) (by decide +kernel)⟩
theorem lw_p39 : lw_okq (⟨"LineScript$Racks", "clear", "()V"⟩, 2) := ⟨⟨by decide +kernel, by decide +kernel⟩, List.mem_of_getElem? (i := 191) (by decide +kernel), List.mem_of_getElem? (i := 443) (by decide +kernel), List.mem_of_getElem? (i := 444) (by decide +kernel)⟩
theorem lw_p40 : lw_okq (⟨"LineScript$Sides", "total", "()I"⟩, 2) := ⟨⟨by decide +kernel, by decide +kernel⟩, List.mem_of_getElem? (i := 63) (by decide +kernel), List.mem_of_getElem? (i := 447) (by decide +kernel), List.mem_of_getElem? (i := 448) (by decide +kernel)⟩
theorem lw_p41 : lw_okq (⟨"LineScript$Sides", "has", "(II)Z"⟩, 2) := ⟨⟨by decide +kernel, by decide +kernel⟩, List.mem_of_getElem? (i := 63) (by decide +kernel), List.mem_of_getElem? (i := 455) (by decide +kernel), List.mem_of_getElem? (i := 456) (by decide +kernel)⟩
theorem lw_p42 : lw_okq (⟨"LineScript$Script", "has", "(I)Z"⟩, 8) := ⟨⟨by decide +kernel, by decide +kernel⟩, List.mem_of_getElem? (i := 151) (by decide +kernel), List.mem_of_getElem? (i := 464) (by decide +kernel), List.mem_of_getElem? (i := 465) (by decide +kernel)⟩
theorem lw_p43 : lw_okq (⟨"LineScript$Racks", "append", "(II)I"⟩, 2) := ⟨⟨by decide +kernel, by decide +kernel⟩, List.mem_of_getElem? (i := 191) (by decide +kernel), List.mem_of_getElem? (i := 488) (by decide +kernel), List.mem_of_getElem? (i := 489) (by decide +kernel)⟩
theorem lw_p44 : lw_okq (⟨"LineScript$Sides", "remove", "(II)V"⟩, 2) := ⟨⟨by decide +kernel, by decide +kernel⟩, List.mem_of_getElem? (i := 63) (by decide +kernel), List.mem_of_getElem? (i := 510) (by decide +kernel), List.mem_of_getElem? (i := 511) (by decide +kernel)⟩
theorem lw_p45 : lw_okq (⟨"LineScript$Sides", "exchangeLines", "(III)V"⟩, 2) := ⟨⟨by decide +kernel, by decide +kernel⟩, List.mem_of_getElem? (i := 63) (by decide +kernel), List.mem_of_getElem? (i := 519) (by decide +kernel), List.mem_of_getElem? (i := 520) (by decide +kernel)⟩
theorem lw_p46 : lw_okq (⟨"LineScript$Sides", "exchangeSides", "()V"⟩, 2) := ⟨⟨by decide +kernel, by decide +kernel⟩, List.mem_of_getElem? (i := 63) (by decide +kernel), List.mem_of_getElem? (i := 527) (by decide +kernel), List.mem_of_getElem? (i := 528) (by decide +kernel)⟩
theorem lw_p47 : lw_okq (⟨"LineScript$Match", "notKept", "()I"⟩, 9) := ⟨⟨by decide +kernel, by decide +kernel⟩, List.mem_of_getElem? (i := 57) (by decide +kernel), List.mem_of_getElem? (i := 535) (by decide +kernel), List.mem_of_getElem? (i := 536) (by decide +kernel)⟩
def lw_privs_3 : List (MethodName × Nat) := [(⟨"LineScript$Script", "nextKept", "(LLineScript$Match;II)I"⟩, 8), (⟨"LineScript$Script", "findChanged", "(LLineScript$Sides;LLineScript$Likeness;IIII)V"⟩, 8), (⟨"LineScript$Likeness", "fraction", "(II)F"⟩, 3), (⟨"LineScript$Likeness", "commonLetters", "(II)I"⟩, 3), (⟨"LineScript$Script", "addDropped", "(II)V"⟩, 8), (⟨"LineScript$Script", "addStep", "(IIIFI)V"⟩, 8), (⟨"LineScript$Script", "addAdded", "(LLineScript$Sides;LLineScript$Likeness;II)V"⟩, 8), (⟨"LineScript$Racks", "clear", "()V"⟩, 2), (⟨"LineScript$Sides", "total", "()I"⟩, 2), (⟨"LineScript$Sides", "has", "(II)Z"⟩, 2), (⟨"LineScript$Script", "has", "(I)Z"⟩, 8), (⟨"LineScript$Racks", "append", "(II)I"⟩, 2), (⟨"LineScript$Sides", "remove", "(II)V"⟩, 2), (⟨"LineScript$Sides", "exchangeLines", "(III)V"⟩, 2), (⟨"LineScript$Sides", "exchangeSides", "()V"⟩, 2), (⟨"LineScript$Match", "notKept", "()I"⟩, 9)]
theorem lw_r3 : ∀ q ∈ lw_privs_3, lw_okq q := List.forall_mem_cons.mpr ⟨lw_p32, List.forall_mem_cons.mpr ⟨lw_p33, List.forall_mem_cons.mpr ⟨lw_p34, List.forall_mem_cons.mpr ⟨lw_p35, List.forall_mem_cons.mpr ⟨lw_p36, List.forall_mem_cons.mpr ⟨lw_p37, List.forall_mem_cons.mpr ⟨lw_p38, List.forall_mem_cons.mpr ⟨lw_p39, List.forall_mem_cons.mpr ⟨lw_p40, List.forall_mem_cons.mpr ⟨lw_p41, List.forall_mem_cons.mpr ⟨lw_p42, List.forall_mem_cons.mpr ⟨lw_p43, List.forall_mem_cons.mpr ⟨lw_p44, List.forall_mem_cons.mpr ⟨lw_p45, List.forall_mem_cons.mpr ⟨lw_p46, List.forall_mem_cons.mpr ⟨lw_p47, fun _ h => absurd h List.not_mem_nil⟩⟩⟩⟩⟩⟩⟩⟩⟩⟩⟩⟩⟩⟩⟩⟩
theorem lw_p48 : lw_okq (⟨"LineScript$Match", "kept", "()I"⟩, 9) := ⟨⟨by decide +kernel, by decide +kernel⟩, List.mem_of_getElem? (i := 57) (by decide +kernel), List.mem_of_getElem? (i := 540) (by decide +kernel), List.mem_of_getElem? (i := 541) (by decide +kernel)⟩
theorem lw_p49 : lw_okq (⟨"LineScript$Match", "shortest", "()I"⟩, 9) := ⟨⟨by decide +kernel, by decide +kernel⟩, List.mem_of_getElem? (i := 57) (by decide +kernel), List.mem_of_getElem? (i := 544) (by decide +kernel), List.mem_of_getElem? (i := 545) (by decide +kernel)⟩
theorem lw_p50 : lw_okq (⟨"LineScript", "costOfPutting", "(II)I"⟩, 11) := ⟨⟨by decide +kernel, by decide +kernel⟩, List.mem_of_getElem? (i := 14) (by decide +kernel), List.mem_of_getElem? (i := 552) (by decide +kernel), List.mem_of_getElem? (i := 553) (by decide +kernel)⟩
theorem lw_p51 : lw_okq (⟨"LineScript$Sides", "copyFrom", "(LLineScript$Sides;)V"⟩, 2) := ⟨⟨by decide +kernel, by decide +kernel⟩, List.mem_of_getElem? (i := 63) (by decide +kernel), List.mem_of_getElem? (i := 556) (by decide +kernel), List.mem_of_getElem? (i := 557) (by decide +kernel)⟩
theorem lw_p52 : lw_okq (⟨"LineScript", "drawTrial", "(I)I"⟩, 11) := ⟨⟨by decide +kernel, by decide +kernel⟩, List.mem_of_getElem? (i := 14) (by decide +kernel), List.mem_of_getElem? (i := 580) (by decide +kernel), List.mem_of_getElem? (i := 581) (by decide +kernel)⟩
theorem lw_p53 : lw_okq (⟨"LineScript$Script", "howManyOf", "(I)I"⟩, 8) := ⟨⟨by decide +kernel, by decide +kernel⟩, List.mem_of_getElem? (i := 151) (by decide +kernel), List.mem_of_getElem? (i := 601) (by decide +kernel), List.mem_of_getElem? (i := 602) (by decide +kernel)⟩
theorem lw_p54 : lw_okq (⟨"LineScript$Racks", "total", "()I"⟩, 2) := ⟨⟨by decide +kernel, by decide +kernel⟩, List.mem_of_getElem? (i := 191) (by decide +kernel), List.mem_of_getElem? (i := 605) (by decide +kernel), List.mem_of_getElem? (i := 606) (by decide +kernel)⟩
theorem lw_p55 : lw_okq (⟨"LineScript", "digestOfLines", "(J)J"⟩, 11) := ⟨⟨by decide +kernel, by decide +kernel⟩, List.mem_of_getElem? (i := 14) (by decide +kernel), List.mem_of_getElem? (i := 614) (by decide +kernel), List.mem_of_getElem? (i := 615) (by decide +kernel)⟩
theorem lw_p56 : lw_okq (⟨"LineScript", "digestOfScript", "(J)J"⟩, 11) := ⟨⟨by decide +kernel, by decide +kernel⟩, List.mem_of_getElem? (i := 14) (by decide +kernel), List.mem_of_getElem? (i := 620) (by decide +kernel), List.mem_of_getElem? (i := 621) (by decide +kernel)⟩
theorem lw_p57 : lw_okq (⟨"LineScriptModel", "faultOf", "()I"⟩, 33) := ⟨⟨by decide +kernel, by decide +kernel⟩, List.mem_of_getElem? (i := 629) (by decide +kernel), List.mem_of_getElem? (i := 751) (by decide +kernel), List.mem_of_getElem? (i := 752) (by decide +kernel)⟩
theorem lw_p58 : lw_okq (⟨"LineScriptModel", "isGood", "(I)Z"⟩, 33) := ⟨⟨by decide +kernel, by decide +kernel⟩, List.mem_of_getElem? (i := 629) (by decide +kernel), List.mem_of_getElem? (i := 755) (by decide +kernel), List.mem_of_getElem? (i := 756) (by decide +kernel)⟩
theorem lw_p59 : lw_okq (⟨"LineScriptModel", "layScript", "()V"⟩, 33) := ⟨⟨by decide +kernel, by decide +kernel⟩, List.mem_of_getElem? (i := 629) (by decide +kernel), List.mem_of_getElem? (i := 768) (by decide +kernel), List.mem_of_getElem? (i := 769) (by decide +kernel)⟩
theorem lw_p60 : lw_okq (⟨"LineScriptModel", "layKept", "()V"⟩, 33) := ⟨⟨by decide +kernel, by decide +kernel⟩, List.mem_of_getElem? (i := 629) (by decide +kernel), List.mem_of_getElem? (i := 772) (by decide +kernel), List.mem_of_getElem? (i := 773) (by decide +kernel)⟩
theorem lw_p61 : lw_okq (⟨"LineScriptModel", "matchAll", "()V"⟩, 33) := ⟨⟨by decide +kernel, by decide +kernel⟩, List.mem_of_getElem? (i := 629) (by decide +kernel), List.mem_of_getElem? (i := 776) (by decide +kernel), List.mem_of_getElem? (i := 777) (by decide +kernel)⟩
theorem lw_p62 : lw_okq (⟨"LineScriptModel", "addPart", "(IIII)V"⟩, 33) := ⟨⟨by decide +kernel, by decide +kernel⟩, List.mem_of_getElem? (i := 629) (by decide +kernel), List.mem_of_getElem? (i := 780) (by decide +kernel), List.mem_of_getElem? (i := 781) (by decide +kernel)⟩
theorem lw_p63 : lw_okq (⟨"LineScriptModel", "matchPart", "(IIII)V"⟩, 33) := ⟨⟨by decide +kernel, by decide +kernel⟩, List.mem_of_getElem? (i := 629) (by decide +kernel), List.mem_of_getElem? (i := 784) (by decide +kernel), List.mem_of_getElem? (i := 785) (by decide +kernel)⟩
def lw_privs_4 : List (MethodName × Nat) := [(⟨"LineScript$Match", "kept", "()I"⟩, 9), (⟨"LineScript$Match", "shortest", "()I"⟩, 9), (⟨"LineScript", "costOfPutting", "(II)I"⟩, 11), (⟨"LineScript$Sides", "copyFrom", "(LLineScript$Sides;)V"⟩, 2), (⟨"LineScript", "drawTrial", "(I)I"⟩, 11), (⟨"LineScript$Script", "howManyOf", "(I)I"⟩, 8), (⟨"LineScript$Racks", "total", "()I"⟩, 2), (⟨"LineScript", "digestOfLines", "(J)J"⟩, 11), (⟨"LineScript", "digestOfScript", "(J)J"⟩, 11), (⟨"LineScriptModel", "faultOf", "()I"⟩, 33), (⟨"LineScriptModel", "isGood", "(I)Z"⟩, 33), (⟨"LineScriptModel", "layScript", "()V"⟩, 33), (⟨"LineScriptModel", "layKept", "()V"⟩, 33), (⟨"LineScriptModel", "matchAll", "()V"⟩, 33), (⟨"LineScriptModel", "addPart", "(IIII)V"⟩, 33), (⟨"LineScriptModel", "matchPart", "(IIII)V"⟩, 33)]
theorem lw_r4 : ∀ q ∈ lw_privs_4, lw_okq q := List.forall_mem_cons.mpr ⟨lw_p48, List.forall_mem_cons.mpr ⟨lw_p49, List.forall_mem_cons.mpr ⟨lw_p50, List.forall_mem_cons.mpr ⟨lw_p51, List.forall_mem_cons.mpr ⟨lw_p52, List.forall_mem_cons.mpr ⟨lw_p53, List.forall_mem_cons.mpr ⟨lw_p54, List.forall_mem_cons.mpr ⟨lw_p55, List.forall_mem_cons.mpr ⟨lw_p56, List.forall_mem_cons.mpr ⟨lw_p57, List.forall_mem_cons.mpr ⟨lw_p58, List.forall_mem_cons.mpr ⟨lw_p59, List.forall_mem_cons.mpr ⟨lw_p60, List.forall_mem_cons.mpr ⟨lw_p61, List.forall_mem_cons.mpr ⟨lw_p62, List.forall_mem_cons.mpr ⟨lw_p63, fun _ h => absurd h List.not_mem_nil⟩⟩⟩⟩⟩⟩⟩⟩⟩⟩⟩⟩⟩⟩⟩⟩
theorem lw_p64 : lw_okq (⟨"LineScriptModel", "isSame", "(II)Z"⟩, 33) := ⟨⟨by decide +kernel, by decide +kernel⟩, List.mem_of_getElem? (i := 629) (by decide +kernel), List.mem_of_getElem? (i := 788) (by decide +kernel), List.mem_of_getElem? (i := 789) (by decide +kernel)⟩
theorem lw_p65 : lw_okq (⟨"LineScriptModel", "keep", "(II)V"⟩, 33) := ⟨⟨by decide +kernel, by decide +kernel⟩, List.mem_of_getElem? (i := 629) (by decide +kernel), List.mem_of_getElem? (i := 792) (by decide +kernel), List.mem_of_getElem? (i := 793) (by decide +kernel)⟩
theorem lw_p66 : lw_okq (⟨"LineScriptModel", "layAnchors", "(IIII)I"⟩, 33) := ⟨⟨by decide +kernel, by decide +kernel⟩, List.mem_of_getElem? (i := 629) (by decide +kernel), List.mem_of_getElem? (i := 796) (by decide +kernel), List.mem_of_getElem? (i := 797) (by decide +kernel)⟩
theorem lw_p67 : lw_okq (⟨"LineScriptModel", "timesIn", "(III)I"⟩, 33) := ⟨⟨by decide +kernel, by decide +kernel⟩, List.mem_of_getElem? (i := 629) (by decide +kernel), List.mem_of_getElem? (i := 800) (by decide +kernel), List.mem_of_getElem? (i := 801) (by decide +kernel)⟩
theorem lw_p68 : lw_okq (⟨"LineScriptModel", "matchAnchors", "(IIIII)V"⟩, 33) := ⟨⟨by decide +kernel, by decide +kernel⟩, List.mem_of_getElem? (i := 629) (by decide +kernel), List.mem_of_getElem? (i := 804) (by decide +kernel), List.mem_of_getElem? (i := 805) (by decide +kernel)⟩
theorem lw_p69 : lw_okq (⟨"LineScriptModel", "matchRows", "(IIII)V"⟩, 33) := ⟨⟨by decide +kernel, by decide +kernel⟩, List.mem_of_getElem? (i := 629) (by decide +kernel), List.mem_of_getElem? (i := 808) (by decide +kernel), List.mem_of_getElem? (i := 809) (by decide +kernel)⟩
theorem lw_p70 : lw_okq (⟨"LineScriptModel", "layCan", "(IIII)V"⟩, 33) := ⟨⟨by decide +kernel, by decide +kernel⟩, List.mem_of_getElem? (i := 629) (by decide +kernel), List.mem_of_getElem? (i := 812) (by decide +kernel), List.mem_of_getElem? (i := 813) (by decide +kernel)⟩
theorem lw_p71 : lw_okq (⟨"LineScriptModel", "slideAll", "()V"⟩, 33) := ⟨⟨by decide +kernel, by decide +kernel⟩, List.mem_of_getElem? (i := 629) (by decide +kernel), List.mem_of_getElem? (i := 816) (by decide +kernel), List.mem_of_getElem? (i := 817) (by decide +kernel)⟩
theorem lw_p72 : lw_okq (⟨"LineScriptModel", "countBack", "(II)I"⟩, 33) := ⟨⟨by decide +kernel, by decide +kernel⟩, List.mem_of_getElem? (i := 629) (by decide +kernel), List.mem_of_getElem? (i := 820) (by decide +kernel), List.mem_of_getElem? (i := 821) (by decide +kernel)⟩
theorem lw_p73 : lw_okq (⟨"LineScriptModel", "slideGap", "(IIII)I"⟩, 33) := ⟨⟨by decide +kernel, by decide +kernel⟩, List.mem_of_getElem? (i := 629) (by decide +kernel), List.mem_of_getElem? (i := 824) (by decide +kernel), List.mem_of_getElem? (i := 825) (by decide +kernel)⟩
theorem lw_p74 : lw_okq (⟨"LineScriptModel", "isSliding", "(III)Z"⟩, 33) := ⟨⟨by decide +kernel, by decide +kernel⟩, List.mem_of_getElem? (i := 629) (by decide +kernel), List.mem_of_getElem? (i := 828) (by decide +kernel), List.mem_of_getElem? (i := 829) (by decide +kernel)⟩
theorem lw_p75 : lw_okq (⟨"LineScriptModel", "slide", "(III)V"⟩, 33) := ⟨⟨by decide +kernel, by decide +kernel⟩, List.mem_of_getElem? (i := 629) (by decide +kernel), List.mem_of_getElem? (i := 832) (by decide +kernel), List.mem_of_getElem? (i := 833) (by decide +kernel)⟩
theorem lw_p76 : lw_okq (⟨"LineScriptModel", "countGap", "(II)I"⟩, 33) := ⟨⟨by decide +kernel, by decide +kernel⟩, List.mem_of_getElem? (i := 629) (by decide +kernel), List.mem_of_getElem? (i := 836) (by decide +kernel), List.mem_of_getElem? (i := 837) (by decide +kernel)⟩
theorem lw_p77 : lw_okq (⟨"LineScriptModel", "layGap", "(IIII)V"⟩, 33) := ⟨⟨by decide +kernel, by decide +kernel⟩, List.mem_of_getElem? (i := 629) (by decide +kernel), List.mem_of_getElem? (i := 840) (by decide +kernel), List.mem_of_getElem? (i := 841) (by decide +kernel)⟩
theorem lw_p78 : lw_okq (⟨"LineScriptModel", "changeBy", "(II)I"⟩, 33) := ⟨⟨by decide +kernel, by decide +kernel⟩, List.mem_of_getElem? (i := 629) (by decide +kernel), List.mem_of_getElem? (i := 844) (by decide +kernel), List.mem_of_getElem? (i := 845) (by decide +kernel)⟩
theorem lw_p79 : lw_okq (⟨"LineScriptModel", "alike", "(II)I"⟩, 33) := ⟨⟨by decide +kernel, by decide +kernel⟩, List.mem_of_getElem? (i := 629) (by decide +kernel), List.mem_of_getElem? (i := 848) (by decide +kernel), List.mem_of_getElem? (i := 849) (by decide +kernel)⟩
def lw_privs_5 : List (MethodName × Nat) := [(⟨"LineScriptModel", "isSame", "(II)Z"⟩, 33), (⟨"LineScriptModel", "keep", "(II)V"⟩, 33), (⟨"LineScriptModel", "layAnchors", "(IIII)I"⟩, 33), (⟨"LineScriptModel", "timesIn", "(III)I"⟩, 33), (⟨"LineScriptModel", "matchAnchors", "(IIIII)V"⟩, 33), (⟨"LineScriptModel", "matchRows", "(IIII)V"⟩, 33), (⟨"LineScriptModel", "layCan", "(IIII)V"⟩, 33), (⟨"LineScriptModel", "slideAll", "()V"⟩, 33), (⟨"LineScriptModel", "countBack", "(II)I"⟩, 33), (⟨"LineScriptModel", "slideGap", "(IIII)I"⟩, 33), (⟨"LineScriptModel", "isSliding", "(III)Z"⟩, 33), (⟨"LineScriptModel", "slide", "(III)V"⟩, 33), (⟨"LineScriptModel", "countGap", "(II)I"⟩, 33), (⟨"LineScriptModel", "layGap", "(IIII)V"⟩, 33), (⟨"LineScriptModel", "changeBy", "(II)I"⟩, 33), (⟨"LineScriptModel", "alike", "(II)I"⟩, 33)]
theorem lw_r5 : ∀ q ∈ lw_privs_5, lw_okq q := List.forall_mem_cons.mpr ⟨lw_p64, List.forall_mem_cons.mpr ⟨lw_p65, List.forall_mem_cons.mpr ⟨lw_p66, List.forall_mem_cons.mpr ⟨lw_p67, List.forall_mem_cons.mpr ⟨lw_p68, List.forall_mem_cons.mpr ⟨lw_p69, List.forall_mem_cons.mpr ⟨lw_p70, List.forall_mem_cons.mpr ⟨lw_p71, List.forall_mem_cons.mpr ⟨lw_p72, List.forall_mem_cons.mpr ⟨lw_p73, List.forall_mem_cons.mpr ⟨lw_p74, List.forall_mem_cons.mpr ⟨lw_p75, List.forall_mem_cons.mpr ⟨lw_p76, List.forall_mem_cons.mpr ⟨lw_p77, List.forall_mem_cons.mpr ⟨lw_p78, List.forall_mem_cons.mpr ⟨lw_p79, fun _ h => absurd h List.not_mem_nil⟩⟩⟩⟩⟩⟩⟩⟩⟩⟩⟩⟩⟩⟩⟩⟩
theorem lw_p80 : lw_okq (⟨"LineScriptModel", "addStep", "(IIIII)V"⟩, 33) := ⟨⟨by decide +kernel, by decide +kernel⟩, List.mem_of_getElem? (i := 629) (by decide +kernel), List.mem_of_getElem? (i := 858) (by decide +kernel), List.mem_of_getElem? (i := 859) (by decide +kernel)⟩
theorem lw_p81 : lw_okq (⟨"LineScriptModel", "likeBits", "(II)I"⟩, 33) := ⟨⟨by decide +kernel, by decide +kernel⟩, List.mem_of_getElem? (i := 629) (by decide +kernel), List.mem_of_getElem? (i := 862) (by decide +kernel), List.mem_of_getElem? (i := 863) (by decide +kernel)⟩
theorem lw_p82 : lw_okq (⟨"LineScriptModel", "isLine", "(II)Z"⟩, 33) := ⟨⟨by decide +kernel, by decide +kernel⟩, List.mem_of_getElem? (i := 629) (by decide +kernel), List.mem_of_getElem? (i := 875) (by decide +kernel), List.mem_of_getElem? (i := 876) (by decide +kernel)⟩
theorem lw_p83 : lw_okq (⟨"LineScriptModel", "isStep", "(I)Z"⟩, 33) := ⟨⟨by decide +kernel, by decide +kernel⟩, List.mem_of_getElem? (i := 629) (by decide +kernel), List.mem_of_getElem? (i := 886) (by decide +kernel), List.mem_of_getElem? (i := 887) (by decide +kernel)⟩
theorem lw_p84 : lw_okq (⟨"LineScriptModel", "lettersBy", "(II)I"⟩, 33) := ⟨⟨by decide +kernel, by decide +kernel⟩, List.mem_of_getElem? (i := 629) (by decide +kernel), List.mem_of_getElem? (i := 895) (by decide +kernel), List.mem_of_getElem? (i := 896) (by decide +kernel)⟩
theorem lw_p85 : lw_okq (⟨"LineScriptModel", "tellLine", "(III)I"⟩, 33) := ⟨⟨by decide +kernel, by decide +kernel⟩, List.mem_of_getElem? (i := 629) (by decide +kernel), List.mem_of_getElem? (i := 903) (by decide +kernel), List.mem_of_getElem? (i := 904) (by decide +kernel)⟩
theorem lw_p86 : lw_okq (⟨"LineScriptModel", "rackedOf", "(I)I"⟩, 33) := ⟨⟨by decide +kernel, by decide +kernel⟩, List.mem_of_getElem? (i := 629) (by decide +kernel), List.mem_of_getElem? (i := 911) (by decide +kernel), List.mem_of_getElem? (i := 912) (by decide +kernel)⟩
theorem lw_p87 : lw_okq (⟨"LineScriptModel", "insert", "(III)V"⟩, 33) := ⟨⟨by decide +kernel, by decide +kernel⟩, List.mem_of_getElem? (i := 629) (by decide +kernel), List.mem_of_getElem? (i := 930) (by decide +kernel), List.mem_of_getElem? (i := 931) (by decide +kernel)⟩
theorem lw_p88 : lw_okq (⟨"LineScriptModel", "remove", "(II)V"⟩, 33) := ⟨⟨by decide +kernel, by decide +kernel⟩, List.mem_of_getElem? (i := 629) (by decide +kernel), List.mem_of_getElem? (i := 938) (by decide +kernel), List.mem_of_getElem? (i := 939) (by decide +kernel)⟩
theorem lw_p89 : lw_okq (⟨"LineScriptModel", "costOf", "(I)I"⟩, 33) := ⟨⟨by decide +kernel, by decide +kernel⟩, List.mem_of_getElem? (i := 629) (by decide +kernel), List.mem_of_getElem? (i := 954) (by decide +kernel), List.mem_of_getElem? (i := 955) (by decide +kernel)⟩
theorem lw_p90 : lw_okq (⟨"LineScriptModel", "costNow", "()I"⟩, 33) := ⟨⟨by decide +kernel, by decide +kernel⟩, List.mem_of_getElem? (i := 629) (by decide +kernel), List.mem_of_getElem? (i := 958) (by decide +kernel), List.mem_of_getElem? (i := 959) (by decide +kernel)⟩
theorem lw_p91 : lw_okq (⟨"LineScriptModel", "keptMany", "()I"⟩, 33) := ⟨⟨by decide +kernel, by decide +kernel⟩, List.mem_of_getElem? (i := 629) (by decide +kernel), List.mem_of_getElem? (i := 962) (by decide +kernel), List.mem_of_getElem? (i := 963) (by decide +kernel)⟩
theorem lw_p92 : lw_okq (⟨"LineScriptModel", "bestOf", "(I)I"⟩, 33) := ⟨⟨by decide +kernel, by decide +kernel⟩, List.mem_of_getElem? (i := 629) (by decide +kernel), List.mem_of_getElem? (i := 970) (by decide +kernel), List.mem_of_getElem? (i := 971) (by decide +kernel)⟩
theorem lw_p93 : lw_okq (⟨"LineScriptModel", "allOf", "()J"⟩, 33) := ⟨⟨by decide +kernel, by decide +kernel⟩, List.mem_of_getElem? (i := 629) (by decide +kernel), List.mem_of_getElem? (i := 978) (by decide +kernel), List.mem_of_getElem? (i := 979) (by decide +kernel)⟩
theorem lw_p94 : lw_okq (⟨"LineScriptModel", "draw", "(I)I"⟩, 33) := ⟨⟨by decide +kernel, by decide +kernel⟩, List.mem_of_getElem? (i := 629) (by decide +kernel), List.mem_of_getElem? (i := 988) (by decide +kernel), List.mem_of_getElem? (i := 989) (by decide +kernel)⟩
theorem lw_p95 : lw_okq (⟨"LineScriptModel", "countOf", "(I)I"⟩, 33) := ⟨⟨by decide +kernel, by decide +kernel⟩, List.mem_of_getElem? (i := 629) (by decide +kernel), List.mem_of_getElem? (i := 1008) (by decide +kernel), List.mem_of_getElem? (i := 1009) (by decide +kernel)⟩
def lw_privs_6 : List (MethodName × Nat) := [(⟨"LineScriptModel", "addStep", "(IIIII)V"⟩, 33), (⟨"LineScriptModel", "likeBits", "(II)I"⟩, 33), (⟨"LineScriptModel", "isLine", "(II)Z"⟩, 33), (⟨"LineScriptModel", "isStep", "(I)Z"⟩, 33), (⟨"LineScriptModel", "lettersBy", "(II)I"⟩, 33), (⟨"LineScriptModel", "tellLine", "(III)I"⟩, 33), (⟨"LineScriptModel", "rackedOf", "(I)I"⟩, 33), (⟨"LineScriptModel", "insert", "(III)V"⟩, 33), (⟨"LineScriptModel", "remove", "(II)V"⟩, 33), (⟨"LineScriptModel", "costOf", "(I)I"⟩, 33), (⟨"LineScriptModel", "costNow", "()I"⟩, 33), (⟨"LineScriptModel", "keptMany", "()I"⟩, 33), (⟨"LineScriptModel", "bestOf", "(I)I"⟩, 33), (⟨"LineScriptModel", "allOf", "()J"⟩, 33), (⟨"LineScriptModel", "draw", "(I)I"⟩, 33), (⟨"LineScriptModel", "countOf", "(I)I"⟩, 33)]
theorem lw_r6 : ∀ q ∈ lw_privs_6, lw_okq q := List.forall_mem_cons.mpr ⟨lw_p80, List.forall_mem_cons.mpr ⟨lw_p81, List.forall_mem_cons.mpr ⟨lw_p82, List.forall_mem_cons.mpr ⟨lw_p83, List.forall_mem_cons.mpr ⟨lw_p84, List.forall_mem_cons.mpr ⟨lw_p85, List.forall_mem_cons.mpr ⟨lw_p86, List.forall_mem_cons.mpr ⟨lw_p87, List.forall_mem_cons.mpr ⟨lw_p88, List.forall_mem_cons.mpr ⟨lw_p89, List.forall_mem_cons.mpr ⟨lw_p90, List.forall_mem_cons.mpr ⟨lw_p91, List.forall_mem_cons.mpr ⟨lw_p92, List.forall_mem_cons.mpr ⟨lw_p93, List.forall_mem_cons.mpr ⟨lw_p94, List.forall_mem_cons.mpr ⟨lw_p95, fun _ h => absurd h List.not_mem_nil⟩⟩⟩⟩⟩⟩⟩⟩⟩⟩⟩⟩⟩⟩⟩⟩
theorem lw_p96 : lw_okq (⟨"LineScriptModel", "stepsOf", "(I)I"⟩, 33) := ⟨⟨by decide +kernel, by decide +kernel⟩, List.mem_of_getElem? (i := 629) (by decide +kernel), List.mem_of_getElem? (i := 1012) (by decide +kernel), List.mem_of_getElem? (i := 1013) (by decide +kernel)⟩
theorem lw_p97 : lw_okq (⟨"LineScriptModel", "rackedAll", "()I"⟩, 33) := ⟨⟨by decide +kernel, by decide +kernel⟩, List.mem_of_getElem? (i := 629) (by decide +kernel), List.mem_of_getElem? (i := 1016) (by decide +kernel), List.mem_of_getElem? (i := 1017) (by decide +kernel)⟩
theorem lw_p98 : lw_okq (⟨"LineScriptModel", "say", "(J)V"⟩, 33) := ⟨⟨by decide +kernel, by decide +kernel⟩, List.mem_of_getElem? (i := 629) (by decide +kernel), List.mem_of_getElem? (i := 1025) (by decide +kernel), List.mem_of_getElem? (i := 1026) (by decide +kernel)⟩
theorem lw_p99 : lw_okq (⟨"LineScriptModel", "sayText", "()V"⟩, 33) := ⟨⟨by decide +kernel, by decide +kernel⟩, List.mem_of_getElem? (i := 629) (by decide +kernel), List.mem_of_getElem? (i := 1030) (by decide +kernel), List.mem_of_getElem? (i := 1031) (by decide +kernel)⟩
def lw_privs_7 : List (MethodName × Nat) := [(⟨"LineScriptModel", "stepsOf", "(I)I"⟩, 33), (⟨"LineScriptModel", "rackedAll", "()I"⟩, 33), (⟨"LineScriptModel", "say", "(J)V"⟩, 33), (⟨"LineScriptModel", "sayText", "()V"⟩, 33)]
theorem lw_r7 : ∀ q ∈ lw_privs_7, lw_okq q := List.forall_mem_cons.mpr ⟨lw_p96, List.forall_mem_cons.mpr ⟨lw_p97, List.forall_mem_cons.mpr ⟨lw_p98, List.forall_mem_cons.mpr ⟨lw_p99, fun _ h => absurd h List.not_mem_nil⟩⟩⟩⟩
def lw_privs : List (MethodName × Nat) := lw_privs_1 ++ (lw_privs_2 ++ (lw_privs_3 ++ (lw_privs_4 ++ (lw_privs_5 ++ (lw_privs_6 ++ (lw_privs_7))))))
def lw_tbl : List Cond := k2_sels lw_privs ++ tables_1
theorem lw_privs_ok : ∀ q ∈ lw_privs, lw_okq q := by
  show ∀ q ∈ lw_privs_1 ++ (lw_privs_2 ++ (lw_privs_3 ++ (lw_privs_4 ++ (lw_privs_5 ++ (lw_privs_6 ++ (lw_privs_7)))))), lw_okq q
  exact List.forall_mem_append.mpr ⟨lw_r1, List.forall_mem_append.mpr ⟨lw_r2, List.forall_mem_append.mpr ⟨lw_r3, List.forall_mem_append.mpr ⟨lw_r4, List.forall_mem_append.mpr ⟨lw_r5, List.forall_mem_append.mpr ⟨lw_r6, lw_r7⟩⟩⟩⟩⟩⟩
/-- the streams that the claim lets the run draw from -/
abbrev lw_cs : List Choice := [Jvm.Choice.named "NaN.bits"]
theorem lw_bits : nanBits ∈ lw_cs := by first | decide | exact List.mem_cons_self | simp [lw_cs, nanBits]
-- ===== end of PART A; then your names; then what follows =====
end
section
/-! ===== BEGIN words of one list among another's, by their places ===== -/
theorem goodIn_r {big : List Cond} (ws : List Cond) (ps : List Nat) (hp : ws = ps.filterMap (fun i => big[i]?)) (h : ws.all goodWord = true) : GoodIn big ws := by
  intro w hw
  have h1 := List.all_eq_true.mp h w hw
  rw [hp] at hw
  obtain ⟨i, -, hi⟩ := List.mem_filterMap.mp hw
  have hm : w ∈ big := by first | exact List.mem_of_getElem? hi | exact List.getElem?_mem hi
  exact ⟨hm, good_of_word h1⟩
theorem goodIn_app {big a b : List Cond} (ha : GoodIn big a) (hb : GoodIn big b) : GoodIn big (a ++ b) := fun w h => (List.mem_append.mp h).elim (ha w) (hb w)
theorem goodIn_ca {big a b : List Cond} {c : Cond} (ha : GoodIn big (c :: a)) (hb : GoodIn big b) : GoodIn big (c :: (a ++ b)) := fun w h => (List.mem_cons.mp h).elim (fun e => ha w (List.mem_cons.mpr (Or.inl e))) (fun h => (List.mem_append.mp h).elim (fun h => ha w (List.mem_cons.mpr (Or.inr h))) (hb w))
theorem goodIn_sub {big ws : List Cond} (hm : ∀ w ∈ ws, w ∈ big) (h : ws.all goodWord = true) : GoodIn big ws := fun w hw => ⟨hm w hw, good_of_word (List.all_eq_true.mp h w hw)⟩
/-! ===== END ===== -/

def RX0 : String := "LineScript$Common"
def TX0 : u_T := fun k => match k with
  | _ => ("LineScript$Common", "from", "[[I", true)
def tyX0 : Nat → FieldType := fun k => match k with
  | _ => .array (.array .int)
abbrev wsX00 : List Cond := u_ws RX0 TX0 1
theorem nmX0 : ∀ a, a < 1 → ∀ b, b < 1 → a ≠ b → (TX0 a).2.1 ≠ (TX0 b).2.1 := by decide +kernel
theorem tyX0_ok : ∀ k, k < 1 → parseFieldDescriptor (TX0 k).2.2.1 = some (tyX0 k) := by decide +kernel
abbrev cX0_init : ByteArray := prog_2_method_1_code
def yX0_init : MethodName := ⟨RX0, "<init>", "()V"⟩
abbrev cX0_most : ByteArray := prog_2_method_2_code
def yX0_most : MethodName := ⟨RX0, "most", "([III[III)I"⟩
def RX1 : String := "LineScript$Likeness"
def TX1 : u_T := fun k => match k with
  | 0 => ("LineScript$Likeness", "common", "LLineScript$Common;", true)
  | 1 => ("LineScript$Likeness", "oldCodes", "[I", true)
  | _ => ("LineScript$Likeness", "newCodes", "[I", true)
def tyX1 : Nat → FieldType := fun k => match k with
  | 0 => .object "LineScript$Common"
  | 1 => .array .int
  | _ => .array .int
abbrev wsX10 : List Cond := u_ws RX1 TX1 3
theorem nmX1 : ∀ a, a < 3 → ∀ b, b < 3 → a ≠ b → (TX1 a).2.1 ≠ (TX1 b).2.1 := by decide +kernel
theorem tyX1_ok : ∀ k, k < 3 → parseFieldDescriptor (TX1 k).2.2.1 = some (tyX1 k) := by decide +kernel
abbrev cX1_init : ByteArray := prog_3_method_1_code
def yX1_init : MethodName := ⟨RX1, "<init>", "()V"⟩
abbrev cX1_commonLetters : ByteArray := prog_3_method_2_code
def yX1_commonLetters : MethodName := ⟨RX1, "commonLetters", "(II)I"⟩
abbrev cX1_fraction : ByteArray := prog_3_method_3_code
def yX1_fraction : MethodName := ⟨RX1, "fraction", "(II)F"⟩
def RX2 : String := "LineScript$Match"
def TX2 : u_T := fun k => match k with
  | 0 => ("LineScript$Match", "sides", "LLineScript$Sides;", true)
  | 1 => ("LineScript$Match", "partner", "[[I", true)
  | 2 => ("LineScript$Match", "common", "LLineScript$Common;", true)
  | 3 => ("LineScript$Match", "anchorWith", "[I", true)
  | 4 => ("LineScript$Match", "chainFrom", "[I", true)
  | 5 => ("LineScript$Match", "gapStart", "[I", true)
  | 6 => ("LineScript$Match", "gapEnd", "[I", true)
  | 7 => ("LineScript$Match", "anchors", "I", false)
  | _ => ("LineScript$Match", "slides", "I", false)
def tyX2 : Nat → FieldType := fun k => match k with
  | 0 => .object "LineScript$Sides"
  | 1 => .array (.array .int)
  | 2 => .object "LineScript$Common"
  | 3 => .array .int
  | 4 => .array .int
  | 5 => .array .int
  | 6 => .array .int
  | 7 => .int
  | _ => .int
abbrev wsX20 : List Cond := u_ws RX2 TX2 9
theorem nmX2 : ∀ a, a < 9 → ∀ b, b < 9 → a ≠ b → (TX2 a).2.1 ≠ (TX2 b).2.1 := by decide +kernel
theorem tyX2_ok : ∀ k, k < 9 → parseFieldDescriptor (TX2 k).2.2.1 = some (tyX2 k) := by decide +kernel
abbrev cX2_init : ByteArray := prog_4_method_1_code
def yX2_init : MethodName := ⟨RX2, "<init>", "()V"⟩
abbrev cX2_compare : ByteArray := prog_4_method_2_code
def yX2_compare : MethodName := ⟨RX2, "compare", "()V"⟩
abbrev cX2_kept : ByteArray := prog_4_method_3_code
def yX2_kept : MethodName := ⟨RX2, "kept", "()I"⟩
abbrev cX2_notKept : ByteArray := prog_4_method_4_code
def yX2_notKept : MethodName := ⟨RX2, "notKept", "()I"⟩
abbrev cX2_shortest : ByteArray := prog_4_method_5_code
def yX2_shortest : MethodName := ⟨RX2, "shortest", "()I"⟩
abbrev cX2_keep : ByteArray := prog_4_method_6_code
def yX2_keep : MethodName := ⟨RX2, "keep", "(II)V"⟩
abbrev cX2_same : ByteArray := prog_4_method_7_code
def yX2_same : MethodName := ⟨RX2, "same", "(II)Z"⟩
abbrev cX2_matchParts : ByteArray := prog_4_method_8_code
def yX2_matchParts : MethodName := ⟨RX2, "matchParts", "(IIIII)V"⟩
abbrev cX2_findAnchors : ByteArray := prog_4_method_9_code
def yX2_findAnchors : MethodName := ⟨RX2, "findAnchors", "(IIII)V"⟩
abbrev cX2_onlyPlaceOf : ByteArray := prog_4_method_10_code
def yX2_onlyPlaceOf : MethodName := ⟨RX2, "onlyPlaceOf", "(IIII)I"⟩
abbrev cX2_keepLongestChain : ByteArray := prog_4_method_11_code
def yX2_keepLongestChain : MethodName := ⟨RX2, "keepLongestChain", "(II)Z"⟩
abbrev cX2_measureChains : ByteArray := prog_4_method_12_code
def yX2_measureChains : MethodName := ⟨RX2, "measureChains", "(II)I"⟩
abbrev cX2_matchBetweenAnchors : ByteArray := prog_4_method_13_code
def yX2_matchBetweenAnchors : MethodName := ⟨RX2, "matchBetweenAnchors", "(IIIII)V"⟩
abbrev cX2_keepMost : ByteArray := prog_4_method_14_code
def yX2_keepMost : MethodName := ⟨RX2, "keepMost", "(IIII)V"⟩
abbrev cX2_slideGaps : ByteArray := prog_4_method_15_code
def yX2_slideGaps : MethodName := ⟨RX2, "slideGaps", "()V"⟩
abbrev cX2_widenGap : ByteArray := prog_4_method_16_code
def yX2_widenGap : MethodName := ⟨RX2, "widenGap", "()V"⟩
abbrev cX2_slideGap : ByteArray := prog_4_method_17_code
def yX2_slideGap : MethodName := ⟨RX2, "slideGap", "()V"⟩
abbrev cX2_maySlide : ByteArray := prog_4_method_18_code
def yX2_maySlide : MethodName := ⟨RX2, "maySlide", "(I)Z"⟩
abbrev cX2_slideOnce : ByteArray := prog_4_method_19_code
def yX2_slideOnce : MethodName := ⟨RX2, "slideOnce", "(I)V"⟩
def RX3 : String := "LineScript$Page"
def TX3 : u_T := fun k => match k with
  | 0 => ("LineScript$Page", "codes", "[I", true)
  | 1 => ("LineScript$Page", "reader", "LLineScript$Reader;", true)
  | _ => ("LineScript$Page", "size", "I", false)
def tyX3 : Nat → FieldType := fun k => match k with
  | 0 => .array .int
  | 1 => .object "LineScript$Reader"
  | _ => .int
abbrev wsX30 : List Cond := u_ws RX3 TX3 3
theorem nmX3 : ∀ a, a < 3 → ∀ b, b < 3 → a ≠ b → (TX3 a).2.1 ≠ (TX3 b).2.1 := by decide +kernel
theorem tyX3_ok : ∀ k, k < 3 → parseFieldDescriptor (TX3 k).2.2.1 = some (tyX3 k) := by decide +kernel
abbrev cX3_init : ByteArray := prog_5_method_1_code
def yX3_init : MethodName := ⟨RX3, "<init>", "()V"⟩
abbrev cX3_append : ByteArray := prog_5_method_2_code
def yX3_append : MethodName := ⟨RX3, "append", "(I)Z"⟩
abbrev cX3_firstFault : ByteArray := prog_5_method_3_code
def yX3_firstFault : MethodName := ⟨RX3, "firstFault", "()I"⟩
abbrev cX3_isText : ByteArray := prog_5_method_4_code
def yX3_isText : MethodName := ⟨RX3, "isText", "()Z"⟩
abbrev cX3_readInto : ByteArray := prog_5_method_5_code
def yX3_readInto : MethodName := ⟨RX3, "readInto", "(LLineScript$Sides;)V"⟩
def RX4 : String := "LineScript$Racks"
def TX4 : u_T := fun k => match k with
  | 0 => ("LineScript$Racks", "steps", "[[I", true)
  | _ => ("LineScript$Racks", "size", "[I", true)
def tyX4 : Nat → FieldType := fun k => match k with
  | 0 => .array (.array .int)
  | _ => .array .int
abbrev wsX40 : List Cond := u_ws RX4 TX4 2
theorem nmX4 : ∀ a, a < 2 → ∀ b, b < 2 → a ≠ b → (TX4 a).2.1 ≠ (TX4 b).2.1 := by decide +kernel
theorem tyX4_ok : ∀ k, k < 2 → parseFieldDescriptor (TX4 k).2.2.1 = some (tyX4 k) := by decide +kernel
abbrev cX4_init : ByteArray := prog_6_method_1_code
def yX4_init : MethodName := ⟨RX4, "<init>", "()V"⟩
abbrev cX4_clear : ByteArray := prog_6_method_2_code
def yX4_clear : MethodName := ⟨RX4, "clear", "()V"⟩
abbrev cX4_append : ByteArray := prog_6_method_3_code
def yX4_append : MethodName := ⟨RX4, "append", "(II)I"⟩
abbrev cX4_total : ByteArray := prog_6_method_4_code
def yX4_total : MethodName := ⟨RX4, "total", "()I"⟩
def RX5 : String := "LineScript$Reader"
def TX5 : u_T := fun k => match k with
  | 0 => ("LineScript$Reader", "side", "I", false)
  | 1 => ("LineScript$Reader", "lines", "I", false)
  | _ => ("LineScript$Reader", "letters", "I", false)
def tyX5 : Nat → FieldType := fun k => match k with
  | 0 => .int
  | 1 => .int
  | _ => .int
abbrev wsX50 : List Cond := u_ws RX5 TX5 3
theorem nmX5 : ∀ a, a < 3 → ∀ b, b < 3 → a ≠ b → (TX5 a).2.1 ≠ (TX5 b).2.1 := by decide +kernel
theorem tyX5_ok : ∀ k, k < 3 → parseFieldDescriptor (TX5 k).2.2.1 = some (tyX5 k) := by decide +kernel
abbrev cX5_init : ByteArray := prog_7_method_1_code
def yX5_init : MethodName := ⟨RX5, "<init>", "()V"⟩
abbrev cX5_begin : ByteArray := prog_7_method_2_code
def yX5_begin : MethodName := ⟨RX5, "begin", "()V"⟩
abbrev cX5_takes : ByteArray := prog_7_method_3_code
def yX5_takes : MethodName := ⟨RX5, "takes", "(I)Z"⟩
abbrev cX5_takesLetter : ByteArray := prog_7_method_4_code
def yX5_takesLetter : MethodName := ⟨RX5, "takesLetter", "()Z"⟩
abbrev cX5_takesComma : ByteArray := prog_7_method_5_code
def yX5_takesComma : MethodName := ⟨RX5, "takesComma", "()Z"⟩
abbrev cX5_takesSemicolon : ByteArray := prog_7_method_6_code
def yX5_takesSemicolon : MethodName := ⟨RX5, "takesSemicolon", "()Z"⟩
abbrev cX5_mayEnd : ByteArray := prog_7_method_7_code
def yX5_mayEnd : MethodName := ⟨RX5, "mayEnd", "()Z"⟩
abbrev cX5_sideMayEnd : ByteArray := prog_7_method_8_code
def yX5_sideMayEnd : MethodName := ⟨RX5, "sideMayEnd", "()Z"⟩
def RX6 : String := "LineScript$Script"
def TX6 : u_T := fun k => match k with
  | 0 => ("LineScript$Script", "kind", "[I", true)
  | 1 => ("LineScript$Script", "old", "[I", true)
  | 2 => ("LineScript$Script", "neu", "[I", true)
  | 3 => ("LineScript$Script", "bits", "[I", true)
  | 4 => ("LineScript$Script", "gap", "[I", true)
  | 5 => ("LineScript$Script", "changedWith", "[[I", true)
  | 6 => ("LineScript$Script", "size", "I", false)
  | _ => ("LineScript$Script", "gaps", "I", false)
def tyX6 : Nat → FieldType := fun k => match k with
  | 0 => .array .int
  | 1 => .array .int
  | 2 => .array .int
  | 3 => .array .int
  | 4 => .array .int
  | 5 => .array (.array .int)
  | 6 => .int
  | _ => .int
abbrev wsX60 : List Cond := u_ws RX6 TX6 8
theorem nmX6 : ∀ a, a < 8 → ∀ b, b < 8 → a ≠ b → (TX6 a).2.1 ≠ (TX6 b).2.1 := by decide +kernel
theorem tyX6_ok : ∀ k, k < 8 → parseFieldDescriptor (TX6 k).2.2.1 = some (tyX6 k) := by decide +kernel
abbrev cX6_init : ByteArray := prog_8_method_1_code
def yX6_init : MethodName := ⟨RX6, "<init>", "()V"⟩
abbrev cX6_has : ByteArray := prog_8_method_2_code
def yX6_has : MethodName := ⟨RX6, "has", "(I)Z"⟩
abbrev cX6_howManyOf : ByteArray := prog_8_method_3_code
def yX6_howManyOf : MethodName := ⟨RX6, "howManyOf", "(I)I"⟩
abbrev cX6_build : ByteArray := prog_8_method_4_code
def yX6_build : MethodName := ⟨RX6, "build", "(LLineScript$Match;LLineScript$Likeness;)V"⟩
abbrev cX6_nextKept : ByteArray := prog_8_method_5_code
def yX6_nextKept : MethodName := ⟨RX6, "nextKept", "(LLineScript$Match;II)I"⟩
abbrev cX6_findChanged : ByteArray := prog_8_method_6_code
def yX6_findChanged : MethodName := ⟨RX6, "findChanged", "(LLineScript$Sides;LLineScript$Likeness;IIII)V"⟩
abbrev cX6_addDropped : ByteArray := prog_8_method_7_code
def yX6_addDropped : MethodName := ⟨RX6, "addDropped", "(II)V"⟩
abbrev cX6_addAdded : ByteArray := prog_8_method_8_code
def yX6_addAdded : MethodName := ⟨RX6, "addAdded", "(LLineScript$Sides;LLineScript$Likeness;II)V"⟩
abbrev cX6_addStep : ByteArray := prog_8_method_9_code
def yX6_addStep : MethodName := ⟨RX6, "addStep", "(IIIFI)V"⟩
def RX7 : String := "LineScript$Sides"
def TX7 : u_T := fun k => match k with
  | 0 => ("LineScript$Sides", "lines", "[[I", true)
  | _ => ("LineScript$Sides", "size", "[I", true)
def tyX7 : Nat → FieldType := fun k => match k with
  | 0 => .array (.array .int)
  | _ => .array .int
abbrev wsX70 : List Cond := u_ws RX7 TX7 2
theorem nmX7 : ∀ a, a < 2 → ∀ b, b < 2 → a ≠ b → (TX7 a).2.1 ≠ (TX7 b).2.1 := by decide +kernel
theorem tyX7_ok : ∀ k, k < 2 → parseFieldDescriptor (TX7 k).2.2.1 = some (tyX7 k) := by decide +kernel
abbrev cX7_init : ByteArray := prog_9_method_1_code
def yX7_init : MethodName := ⟨RX7, "<init>", "()V"⟩
abbrev cX7_has : ByteArray := prog_9_method_2_code
def yX7_has : MethodName := ⟨RX7, "has", "(II)Z"⟩
abbrev cX7_total : ByteArray := prog_9_method_3_code
def yX7_total : MethodName := ⟨RX7, "total", "()I"⟩
abbrev cX7_clear : ByteArray := prog_9_method_4_code
def yX7_clear : MethodName := ⟨RX7, "clear", "()V"⟩
abbrev cX7_copyFrom : ByteArray := prog_9_method_5_code
def yX7_copyFrom : MethodName := ⟨RX7, "copyFrom", "(LLineScript$Sides;)V"⟩
abbrev cX7_appendLine : ByteArray := prog_9_method_6_code
def yX7_appendLine : MethodName := ⟨RX7, "appendLine", "(II)V"⟩
abbrev cX7_insert : ByteArray := prog_9_method_7_code
def yX7_insert : MethodName := ⟨RX7, "insert", "(III)V"⟩
abbrev cX7_remove : ByteArray := prog_9_method_8_code
def yX7_remove : MethodName := ⟨RX7, "remove", "(II)V"⟩
abbrev cX7_exchangeLines : ByteArray := prog_9_method_9_code
def yX7_exchangeLines : MethodName := ⟨RX7, "exchangeLines", "(III)V"⟩
abbrev cX7_exchangeSides : ByteArray := prog_9_method_10_code
def yX7_exchangeSides : MethodName := ⟨RX7, "exchangeSides", "()V"⟩
def RX8 : String := "LineScript"
def TX8 : u_T := fun k => match k with
  | 0 => ("LineScript", "page", "LLineScript$Page;", true)
  | 1 => ("LineScript", "match", "LLineScript$Match;", true)
  | 2 => ("LineScript", "sides", "LLineScript$Sides;", true)
  | 3 => ("LineScript", "trial", "LLineScript$Match;", true)
  | 4 => ("LineScript", "imaged", "LLineScript$Sides;", true)
  | 5 => ("LineScript", "likeness", "LLineScript$Likeness;", true)
  | 6 => ("LineScript", "script", "LLineScript$Script;", true)
  | 7 => ("LineScript", "racks", "LLineScript$Racks;", true)
  | 8 => ("LineScript", "hasText", "Z", false)
  | 9 => ("LineScript", "hasImage", "Z", false)
  | _ => ("LineScript", "reads", "I", false)
def tyX8 : Nat → FieldType := fun k => match k with
  | 0 => .object "LineScript$Page"
  | 1 => .object "LineScript$Match"
  | 2 => .object "LineScript$Sides"
  | 3 => .object "LineScript$Match"
  | 4 => .object "LineScript$Sides"
  | 5 => .object "LineScript$Likeness"
  | 6 => .object "LineScript$Script"
  | 7 => .object "LineScript$Racks"
  | 8 => .boolean
  | 9 => .boolean
  | _ => .int
abbrev wsX80 : List Cond := u_ws RX8 TX8 11
theorem nmX8 : ∀ a, a < 11 → ∀ b, b < 11 → a ≠ b → (TX8 a).2.1 ≠ (TX8 b).2.1 := by decide +kernel
theorem tyX8_ok : ∀ k, k < 11 → parseFieldDescriptor (TX8 k).2.2.1 = some (tyX8 k) := by decide +kernel
abbrev cX8_init : ByteArray := prog_1_method_1_code
def yX8_init : MethodName := ⟨RX8, "<init>", "()V"⟩
abbrev cX8_letter : ByteArray := prog_1_method_2_code
def yX8_letter : MethodName := ⟨RX8, "letter", "(I)I"⟩
abbrev cX8_blank : ByteArray := prog_1_method_3_code
def yX8_blank : MethodName := ⟨RX8, "blank", "()I"⟩
abbrev cX8_fault : ByteArray := prog_1_method_4_code
def yX8_fault : MethodName := ⟨RX8, "fault", "()I"⟩
abbrev cX8_text : ByteArray := prog_1_method_5_code
def yX8_text : MethodName := ⟨RX8, "text", "()I"⟩
abbrev cX8_line : ByteArray := prog_1_method_6_code
def yX8_line : MethodName := ⟨RX8, "line", "(III)I"⟩
abbrev cX8_step : ByteArray := prog_1_method_7_code
def yX8_step : MethodName := ⟨RX8, "step", "(II)I"⟩
abbrev cX8_letters : ByteArray := prog_1_method_8_code
def yX8_letters : MethodName := ⟨RX8, "letters", "(II)I"⟩
abbrev cX8_like : ByteArray := prog_1_method_9_code
def yX8_like : MethodName := ⟨RX8, "like", "(II)I"⟩
abbrev cX8_rack : ByteArray := prog_1_method_10_code
def yX8_rack : MethodName := ⟨RX8, "rack", "(II)I"⟩
abbrev cX8_racked : ByteArray := prog_1_method_11_code
def yX8_racked : MethodName := ⟨RX8, "racked", "(II)I"⟩
abbrev cX8_put : ByteArray := prog_1_method_12_code
def yX8_put : MethodName := ⟨RX8, "put", "(III)I"⟩
abbrev cX8_take : ByteArray := prog_1_method_13_code
def yX8_take : MethodName := ⟨RX8, "take", "(II)I"⟩
abbrev cX8_swap : ByteArray := prog_1_method_14_code
def yX8_swap : MethodName := ⟨RX8, "swap", "(III)I"⟩
abbrev cX8_turn : ByteArray := prog_1_method_15_code
def yX8_turn : MethodName := ⟨RX8, "turn", "()I"⟩
abbrev cX8_cost : ByteArray := prog_1_method_16_code
def yX8_cost : MethodName := ⟨RX8, "cost", "(I)I"⟩
abbrev cX8_best : ByteArray := prog_1_method_17_code
def yX8_best : MethodName := ⟨RX8, "best", "(I)I"⟩
abbrev cX8_all : ByteArray := prog_1_method_18_code
def yX8_all : MethodName := ⟨RX8, "all", "()J"⟩
abbrev cX8_drawn : ByteArray := prog_1_method_19_code
def yX8_drawn : MethodName := ⟨RX8, "drawn", "(III)I"⟩
abbrev cX8_image : ByteArray := prog_1_method_20_code
def yX8_image : MethodName := ⟨RX8, "image", "()I"⟩
abbrev cX8_restore : ByteArray := prog_1_method_21_code
def yX8_restore : MethodName := ⟨RX8, "restore", "()I"⟩
abbrev cX8_count : ByteArray := prog_1_method_22_code
def yX8_count : MethodName := ⟨RX8, "count", "(I)I"⟩
abbrev cX8_digest : ByteArray := prog_1_method_23_code
def yX8_digest : MethodName := ⟨RX8, "digest", "()J"⟩
abbrev cX8_digestOfLines : ByteArray := prog_1_method_24_code
def yX8_digestOfLines : MethodName := ⟨RX8, "digestOfLines", "(J)J"⟩
abbrev cX8_digestOfScript : ByteArray := prog_1_method_25_code
def yX8_digestOfScript : MethodName := ⟨RX8, "digestOfScript", "(J)J"⟩
abbrev cX8_compareAnew : ByteArray := prog_1_method_26_code
def yX8_compareAnew : MethodName := ⟨RX8, "compareAnew", "()I"⟩
abbrev cX8_costOfPutting : ByteArray := prog_1_method_27_code
def yX8_costOfPutting : MethodName := ⟨RX8, "costOfPutting", "(II)I"⟩
abbrev cX8_drawTrial : ByteArray := prog_1_method_28_code
def yX8_drawTrial : MethodName := ⟨RX8, "drawTrial", "(I)I"⟩
abbrev cX8_isSide : ByteArray := prog_1_method_29_code
def yX8_isSide : MethodName := ⟨RX8, "isSide", "(I)Z"⟩
abbrev cX8_isLetter : ByteArray := prog_1_method_30_code
def yX8_isLetter : MethodName := ⟨RX8, "isLetter", "(I)Z"⟩
abbrev cX8_isLine : ByteArray := prog_1_method_31_code
def yX8_isLine : MethodName := ⟨RX8, "isLine", "(I)Z"⟩
abbrev cX8_lettersIn : ByteArray := prog_1_method_32_code
def yX8_lettersIn : MethodName := ⟨RX8, "lettersIn", "(I)I"⟩
abbrev cX8_codeAt : ByteArray := prog_1_method_33_code
def yX8_codeAt : MethodName := ⟨RX8, "codeAt", "(II)I"⟩
abbrev cX8_isOfKind : ByteArray := prog_1_method_34_code
def yX8_isOfKind : MethodName := ⟨RX8, "isOfKind", "(II)Z"⟩
abbrev cX8_singleBits : ByteArray := prog_1_method_35_code
def yX8_singleBits : MethodName := ⟨RX8, "singleBits", "(F)I"⟩
abbrev cX8_doubleBits : ByteArray := prog_1_method_36_code
def yX8_doubleBits : MethodName := ⟨RX8, "doubleBits", "(D)J"⟩
def RX9 : String := "LineScriptModel"
def TX9 : u_T := fun k => match k with
  | 0 => ("LineScriptModel", "page", "[I", true)
  | 1 => ("LineScriptModel", "pageMany", "I", false)
  | 2 => ("LineScriptModel", "readSide", "I", false)
  | 3 => ("LineScriptModel", "readHere", "I", false)
  | 4 => ("LineScriptModel", "readMany", "[I", true)
  | 5 => ("LineScriptModel", "readLines", "[I", true)
  | 6 => ("LineScriptModel", "readComma", "Z", false)
  | 7 => ("LineScriptModel", "lines", "[I", true)
  | 8 => ("LineScriptModel", "many", "[I", true)
  | 9 => ("LineScriptModel", "there", "Z", false)
  | 10 => ("LineScriptModel", "textsRead", "I", false)
  | 11 => ("LineScriptModel", "kept", "[I", true)
  | 12 => ("LineScriptModel", "anchorMany", "I", false)
  | 13 => ("LineScriptModel", "slideMany", "I", false)
  | 14 => ("LineScriptModel", "parts", "[I", true)
  | 15 => ("LineScriptModel", "partMany", "I", false)
  | 16 => ("LineScriptModel", "anchorOld", "[I", true)
  | 17 => ("LineScriptModel", "anchorNew", "[I", true)
  | 18 => ("LineScriptModel", "anchorLong", "[I", true)
  | 19 => ("LineScriptModel", "can", "[I", true)
  | 20 => ("LineScriptModel", "letterCan", "[I", true)
  | 21 => ("LineScriptModel", "steps", "[I", true)
  | 22 => ("LineScriptModel", "stepMany", "I", false)
  | 23 => ("LineScriptModel", "gapMany", "I", false)
  | 24 => ("LineScriptModel", "changed", "[I", true)
  | 25 => ("LineScriptModel", "racks", "[I", true)
  | 26 => ("LineScriptModel", "seedNow", "I", false)
  | 27 => ("LineScriptModel", "linesThen", "[I", true)
  | 28 => ("LineScriptModel", "manyThen", "[I", true)
  | 29 => ("LineScriptModel", "keptText", "I", false)
  | 30 => ("LineScriptModel", "keptLines", "[I", true)
  | 31 => ("LineScriptModel", "keptLong", "[I", true)
  | _ => ("LineScriptModel", "hash", "J", false)
def tyX9 : Nat → FieldType := fun k => match k with
  | 0 => .array .int
  | 1 => .int
  | 2 => .int
  | 3 => .int
  | 4 => .array .int
  | 5 => .array .int
  | 6 => .boolean
  | 7 => .array .int
  | 8 => .array .int
  | 9 => .boolean
  | 10 => .int
  | 11 => .array .int
  | 12 => .int
  | 13 => .int
  | 14 => .array .int
  | 15 => .int
  | 16 => .array .int
  | 17 => .array .int
  | 18 => .array .int
  | 19 => .array .int
  | 20 => .array .int
  | 21 => .array .int
  | 22 => .int
  | 23 => .int
  | 24 => .array .int
  | 25 => .array .int
  | 26 => .int
  | 27 => .array .int
  | 28 => .array .int
  | 29 => .int
  | 30 => .array .int
  | 31 => .array .int
  | _ => .long
abbrev wsX90 : List Cond := u_ws RX9 TX9 33
theorem nmX9 : ∀ a, a < 33 → ∀ b, b < 33 → a ≠ b → (TX9 a).2.1 ≠ (TX9 b).2.1 := by decide +kernel
theorem tyX9_ok : ∀ k, k < 33 → parseFieldDescriptor (TX9 k).2.2.1 = some (tyX9 k) := by decide +kernel
abbrev cX9_init : ByteArray := prog_11_method_1_code
def yX9_init : MethodName := ⟨RX9, "<init>", "()V"⟩
abbrev cX9_in : ByteArray := prog_11_method_2_code
def yX9_in : MethodName := ⟨RX9, "in", "(JJJ)Z"⟩
abbrev cX9_copy : ByteArray := prog_11_method_3_code
def yX9_copy : MethodName := ⟨RX9, "copy", "([I[I)V"⟩
abbrev cX9_letter : ByteArray := prog_11_method_4_code
def yX9_letter : MethodName := ⟨RX9, "letter", "(I)I"⟩
abbrev cX9_blank : ByteArray := prog_11_method_5_code
def yX9_blank : MethodName := ⟨RX9, "blank", "()I"⟩
abbrev cX9_isGood : ByteArray := prog_11_method_6_code
def yX9_isGood : MethodName := ⟨RX9, "isGood", "(I)Z"⟩
abbrev cX9_faultOf : ByteArray := prog_11_method_7_code
def yX9_faultOf : MethodName := ⟨RX9, "faultOf", "()I"⟩
abbrev cX9_fault : ByteArray := prog_11_method_8_code
def yX9_fault : MethodName := ⟨RX9, "fault", "()I"⟩
abbrev cX9_text : ByteArray := prog_11_method_9_code
def yX9_text : MethodName := ⟨RX9, "text", "()I"⟩
abbrev cX9_isSide : ByteArray := prog_11_method_10_code
def yX9_isSide : MethodName := ⟨RX9, "isSide", "(I)Z"⟩
abbrev cX9_isLine : ByteArray := prog_11_method_11_code
def yX9_isLine : MethodName := ⟨RX9, "isLine", "(II)Z"⟩
abbrev cX9_isSame : ByteArray := prog_11_method_12_code
def yX9_isSame : MethodName := ⟨RX9, "isSame", "(II)Z"⟩
abbrev cX9_addPart : ByteArray := prog_11_method_13_code
def yX9_addPart : MethodName := ⟨RX9, "addPart", "(IIII)V"⟩
abbrev cX9_keep : ByteArray := prog_11_method_14_code
def yX9_keep : MethodName := ⟨RX9, "keep", "(II)V"⟩
abbrev cX9_timesIn : ByteArray := prog_11_method_15_code
def yX9_timesIn : MethodName := ⟨RX9, "timesIn", "(III)I"⟩
abbrev cX9_layAnchors : ByteArray := prog_11_method_16_code
def yX9_layAnchors : MethodName := ⟨RX9, "layAnchors", "(IIII)I"⟩
abbrev cX9_matchAnchors : ByteArray := prog_11_method_17_code
def yX9_matchAnchors : MethodName := ⟨RX9, "matchAnchors", "(IIIII)V"⟩
abbrev cX9_layCan : ByteArray := prog_11_method_18_code
def yX9_layCan : MethodName := ⟨RX9, "layCan", "(IIII)V"⟩
abbrev cX9_matchRows : ByteArray := prog_11_method_19_code
def yX9_matchRows : MethodName := ⟨RX9, "matchRows", "(IIII)V"⟩
abbrev cX9_matchPart : ByteArray := prog_11_method_20_code
def yX9_matchPart : MethodName := ⟨RX9, "matchPart", "(IIII)V"⟩
abbrev cX9_matchAll : ByteArray := prog_11_method_21_code
def yX9_matchAll : MethodName := ⟨RX9, "matchAll", "()V"⟩
abbrev cX9_countGap : ByteArray := prog_11_method_22_code
def yX9_countGap : MethodName := ⟨RX9, "countGap", "(II)I"⟩
abbrev cX9_countBack : ByteArray := prog_11_method_23_code
def yX9_countBack : MethodName := ⟨RX9, "countBack", "(II)I"⟩
abbrev cX9_isSliding : ByteArray := prog_11_method_24_code
def yX9_isSliding : MethodName := ⟨RX9, "isSliding", "(III)Z"⟩
abbrev cX9_slide : ByteArray := prog_11_method_25_code
def yX9_slide : MethodName := ⟨RX9, "slide", "(III)V"⟩
abbrev cX9_slideGap : ByteArray := prog_11_method_26_code
def yX9_slideGap : MethodName := ⟨RX9, "slideGap", "(IIII)I"⟩
abbrev cX9_slideAll : ByteArray := prog_11_method_27_code
def yX9_slideAll : MethodName := ⟨RX9, "slideAll", "()V"⟩
abbrev cX9_bitsOf : ByteArray := prog_11_method_28_code
def yX9_bitsOf : MethodName := ⟨RX9, "bitsOf", "(JJII)J"⟩
abbrev cX9_lettersOf : ByteArray := prog_11_method_29_code
def yX9_lettersOf : MethodName := ⟨RX9, "lettersOf", "(I)I"⟩
abbrev cX9_letterOf : ByteArray := prog_11_method_30_code
def yX9_letterOf : MethodName := ⟨RX9, "letterOf", "(II)I"⟩
abbrev cX9_alike : ByteArray := prog_11_method_31_code
def yX9_alike : MethodName := ⟨RX9, "alike", "(II)I"⟩
abbrev cX9_likeBits : ByteArray := prog_11_method_32_code
def yX9_likeBits : MethodName := ⟨RX9, "likeBits", "(II)I"⟩
abbrev cX9_like : ByteArray := prog_11_method_33_code
def yX9_like : MethodName := ⟨RX9, "like", "(II)I"⟩
abbrev cX9_addStep : ByteArray := prog_11_method_34_code
def yX9_addStep : MethodName := ⟨RX9, "addStep", "(IIIII)V"⟩
abbrev cX9_changeBy : ByteArray := prog_11_method_35_code
def yX9_changeBy : MethodName := ⟨RX9, "changeBy", "(II)I"⟩
abbrev cX9_layGap : ByteArray := prog_11_method_36_code
def yX9_layGap : MethodName := ⟨RX9, "layGap", "(IIII)V"⟩
abbrev cX9_layScript : ByteArray := prog_11_method_37_code
def yX9_layScript : MethodName := ⟨RX9, "layScript", "()V"⟩
abbrev cX9_layKept : ByteArray := prog_11_method_38_code
def yX9_layKept : MethodName := ⟨RX9, "layKept", "()V"⟩
abbrev cX9_isStep : ByteArray := prog_11_method_39_code
def yX9_isStep : MethodName := ⟨RX9, "isStep", "(I)Z"⟩
abbrev cX9_step : ByteArray := prog_11_method_40_code
def yX9_step : MethodName := ⟨RX9, "step", "(II)I"⟩
abbrev cX9_lettersBy : ByteArray := prog_11_method_41_code
def yX9_lettersBy : MethodName := ⟨RX9, "lettersBy", "(II)I"⟩
abbrev cX9_letters : ByteArray := prog_11_method_42_code
def yX9_letters : MethodName := ⟨RX9, "letters", "(II)I"⟩
abbrev cX9_tellLine : ByteArray := prog_11_method_43_code
def yX9_tellLine : MethodName := ⟨RX9, "tellLine", "(III)I"⟩
abbrev cX9_line : ByteArray := prog_11_method_44_code
def yX9_line : MethodName := ⟨RX9, "line", "(III)I"⟩
abbrev cX9_rackedOf : ByteArray := prog_11_method_45_code
def yX9_rackedOf : MethodName := ⟨RX9, "rackedOf", "(I)I"⟩
abbrev cX9_isOf : ByteArray := prog_11_method_46_code
def yX9_isOf : MethodName := ⟨RX9, "isOf", "(II)Z"⟩
abbrev cX9_rack : ByteArray := prog_11_method_47_code
def yX9_rack : MethodName := ⟨RX9, "rack", "(II)I"⟩
abbrev cX9_racked : ByteArray := prog_11_method_48_code
def yX9_racked : MethodName := ⟨RX9, "racked", "(II)I"⟩
abbrev cX9_isLetters : ByteArray := prog_11_method_49_code
def yX9_isLetters : MethodName := ⟨RX9, "isLetters", "(I)Z"⟩
abbrev cX9_insert : ByteArray := prog_11_method_50_code
def yX9_insert : MethodName := ⟨RX9, "insert", "(III)V"⟩
abbrev cX9_remove : ByteArray := prog_11_method_51_code
def yX9_remove : MethodName := ⟨RX9, "remove", "(II)V"⟩
abbrev cX9_put : ByteArray := prog_11_method_52_code
def yX9_put : MethodName := ⟨RX9, "put", "(III)I"⟩
abbrev cX9_take : ByteArray := prog_11_method_53_code
def yX9_take : MethodName := ⟨RX9, "take", "(II)I"⟩
abbrev cX9_swap : ByteArray := prog_11_method_54_code
def yX9_swap : MethodName := ⟨RX9, "swap", "(III)I"⟩
abbrev cX9_turn : ByteArray := prog_11_method_55_code
def yX9_turn : MethodName := ⟨RX9, "turn", "()I"⟩
abbrev cX9_keptMany : ByteArray := prog_11_method_56_code
def yX9_keptMany : MethodName := ⟨RX9, "keptMany", "()I"⟩
abbrev cX9_costNow : ByteArray := prog_11_method_57_code
def yX9_costNow : MethodName := ⟨RX9, "costNow", "()I"⟩
abbrev cX9_costOf : ByteArray := prog_11_method_58_code
def yX9_costOf : MethodName := ⟨RX9, "costOf", "(I)I"⟩
abbrev cX9_cost : ByteArray := prog_11_method_59_code
def yX9_cost : MethodName := ⟨RX9, "cost", "(I)I"⟩
abbrev cX9_bestOf : ByteArray := prog_11_method_60_code
def yX9_bestOf : MethodName := ⟨RX9, "bestOf", "(I)I"⟩
abbrev cX9_best : ByteArray := prog_11_method_61_code
def yX9_best : MethodName := ⟨RX9, "best", "(I)I"⟩
abbrev cX9_allOf : ByteArray := prog_11_method_62_code
def yX9_allOf : MethodName := ⟨RX9, "allOf", "()J"⟩
abbrev cX9_all : ByteArray := prog_11_method_63_code
def yX9_all : MethodName := ⟨RX9, "all", "()J"⟩
abbrev cX9_draw : ByteArray := prog_11_method_64_code
def yX9_draw : MethodName := ⟨RX9, "draw", "(I)I"⟩
abbrev cX9_drawn : ByteArray := prog_11_method_65_code
def yX9_drawn : MethodName := ⟨RX9, "drawn", "(III)I"⟩
abbrev cX9_image : ByteArray := prog_11_method_66_code
def yX9_image : MethodName := ⟨RX9, "image", "()I"⟩
abbrev cX9_restore : ByteArray := prog_11_method_67_code
def yX9_restore : MethodName := ⟨RX9, "restore", "()I"⟩
abbrev cX9_stepsOf : ByteArray := prog_11_method_68_code
def yX9_stepsOf : MethodName := ⟨RX9, "stepsOf", "(I)I"⟩
abbrev cX9_rackedAll : ByteArray := prog_11_method_69_code
def yX9_rackedAll : MethodName := ⟨RX9, "rackedAll", "()I"⟩
abbrev cX9_countOf : ByteArray := prog_11_method_70_code
def yX9_countOf : MethodName := ⟨RX9, "countOf", "(I)I"⟩
abbrev cX9_count : ByteArray := prog_11_method_71_code
def yX9_count : MethodName := ⟨RX9, "count", "(I)I"⟩
abbrev cX9_say : ByteArray := prog_11_method_72_code
def yX9_say : MethodName := ⟨RX9, "say", "(J)V"⟩
abbrev cX9_sayText : ByteArray := prog_11_method_73_code
def yX9_sayText : MethodName := ⟨RX9, "sayText", "()V"⟩
abbrev cX9_digest : ByteArray := prog_11_method_74_code
def yX9_digest : MethodName := ⟨RX9, "digest", "()J"⟩
def RL : String := "LineScriptLaw"
abbrev cL_law : ByteArray := code
def yL_law : MethodName := ⟨RL, "law", "([I)Z"⟩
abbrev vwCl : List vw_C := [(RX0, TX0, 1), (RX1, TX1, 3), (RX2, TX2, 9), (RX3, TX3, 3), (RX4, TX4, 2), (RX5, TX5, 3), (RX6, TX6, 8), (RX7, TX7, 2), (RX8, TX8, 11), (RX9, TX9, 33)]
end
section
theorem dX0_init_0 : decode cX0_init 0 = .ok (.aload_n 0, 1) := by decide +kernel
theorem dX0_init_1 : decode cX0_init 1 = .ok (.invokespecial 3, 3) := by decide +kernel
theorem dX0_init_4 : decode cX0_init 4 = .ok (.aload_n 0, 1) := by decide +kernel
theorem dX0_init_5 : decode cX0_init 5 = .ok (.bipush 9, 2) := by decide +kernel
theorem dX0_init_7 : decode cX0_init 7 = .ok (.bipush 9, 2) := by decide +kernel
theorem dX0_init_9 : decode cX0_init 9 = .ok (.multianewarray 9 2, 4) := by decide +kernel
theorem dX0_init_13 : decode cX0_init 13 = .ok (.putfield 11, 3) := by decide +kernel
theorem dX0_init_16 : decode cX0_init 16 = .ok (.return_, 1) := by decide +kernel
theorem dX0_most_0 : decode cX0_most 0 = .ok (.iload_n 3, 1) := by decide +kernel
theorem dX0_most_1 : decode cX0_most 1 = .ok (.istore 7, 2) := by decide +kernel
theorem dX0_most_3 : decode cX0_most 3 = .ok (.iload 7, 2) := by decide +kernel
theorem dX0_most_5 : decode cX0_most 5 = .ok (.iload_n 2, 1) := by decide +kernel
theorem dX0_most_6 : decode cX0_most 6 = .ok (.if_icmp .lt 131, 3) := by decide +kernel
theorem dX0_most_9 : decode cX0_most 9 = .ok (.iload 6, 2) := by decide +kernel
theorem dX0_most_11 : decode cX0_most 11 = .ok (.istore 8, 2) := by decide +kernel
theorem dX0_most_13 : decode cX0_most 13 = .ok (.iload 8, 2) := by decide +kernel
theorem dX0_most_15 : decode cX0_most 15 = .ok (.iload 5, 2) := by decide +kernel
theorem dX0_most_17 : decode cX0_most 17 = .ok (.if_icmp .lt 114, 3) := by decide +kernel
theorem dX0_most_20 : decode cX0_most 20 = .ok (.iload 7, 2) := by decide +kernel
theorem dX0_most_22 : decode cX0_most 22 = .ok (.iload_n 3, 1) := by decide +kernel
theorem dX0_most_23 : decode cX0_most 23 = .ok (.if_icmp .eq 10, 3) := by decide +kernel
theorem dX0_most_26 : decode cX0_most 26 = .ok (.iload 8, 2) := by decide +kernel
theorem dX0_most_28 : decode cX0_most 28 = .ok (.iload 6, 2) := by decide +kernel
theorem dX0_most_30 : decode cX0_most 30 = .ok (.if_icmp .ne 17, 3) := by decide +kernel
theorem dX0_most_33 : decode cX0_most 33 = .ok (.aload_n 0, 1) := by decide +kernel
theorem dX0_most_34 : decode cX0_most 34 = .ok (.getfield 11, 3) := by decide +kernel
theorem dX0_most_37 : decode cX0_most 37 = .ok (.iload 7, 2) := by decide +kernel
theorem dX0_most_39 : decode cX0_most 39 = .ok (.aaload, 1) := by decide +kernel
theorem dX0_most_40 : decode cX0_most 40 = .ok (.iload 8, 2) := by decide +kernel
theorem dX0_most_42 : decode cX0_most 42 = .ok (.iconst 0, 1) := by decide +kernel
theorem dX0_most_43 : decode cX0_most 43 = .ok (.iastore, 1) := by decide +kernel
theorem dX0_most_44 : decode cX0_most 44 = .ok (.goto 81, 3) := by decide +kernel
theorem dX0_most_47 : decode cX0_most 47 = .ok (.aload_n 1, 1) := by decide +kernel
theorem dX0_most_48 : decode cX0_most 48 = .ok (.iload 7, 2) := by decide +kernel
theorem dX0_most_50 : decode cX0_most 50 = .ok (.iaload, 1) := by decide +kernel
theorem dX0_most_51 : decode cX0_most 51 = .ok (.aload 4, 2) := by decide +kernel
theorem dX0_most_53 : decode cX0_most 53 = .ok (.iload 8, 2) := by decide +kernel
theorem dX0_most_55 : decode cX0_most 55 = .ok (.iaload, 1) := by decide +kernel
theorem dX0_most_56 : decode cX0_most 56 = .ok (.if_icmp .ne 32, 3) := by decide +kernel
theorem dX0_most_59 : decode cX0_most 59 = .ok (.aload_n 0, 1) := by decide +kernel
theorem dX0_most_60 : decode cX0_most 60 = .ok (.getfield 11, 3) := by decide +kernel
theorem dX0_most_63 : decode cX0_most 63 = .ok (.iload 7, 2) := by decide +kernel
theorem dX0_most_65 : decode cX0_most 65 = .ok (.aaload, 1) := by decide +kernel
theorem dX0_most_66 : decode cX0_most 66 = .ok (.iload 8, 2) := by decide +kernel
theorem dX0_most_68 : decode cX0_most 68 = .ok (.aload_n 0, 1) := by decide +kernel
theorem dX0_most_69 : decode cX0_most 69 = .ok (.getfield 11, 3) := by decide +kernel
theorem dX0_most_72 : decode cX0_most 72 = .ok (.iload 7, 2) := by decide +kernel
theorem dX0_most_74 : decode cX0_most 74 = .ok (.iconst 1, 1) := by decide +kernel
theorem dX0_most_75 : decode cX0_most 75 = .ok (.iadd, 1) := by decide +kernel
theorem dX0_most_76 : decode cX0_most 76 = .ok (.aaload, 1) := by decide +kernel
theorem dX0_most_77 : decode cX0_most 77 = .ok (.iload 8, 2) := by decide +kernel
theorem dX0_most_79 : decode cX0_most 79 = .ok (.iconst 1, 1) := by decide +kernel
theorem dX0_most_80 : decode cX0_most 80 = .ok (.iadd, 1) := by decide +kernel
theorem dX0_most_81 : decode cX0_most 81 = .ok (.iaload, 1) := by decide +kernel
theorem dX0_most_82 : decode cX0_most 82 = .ok (.iconst 1, 1) := by decide +kernel
theorem dX0_most_83 : decode cX0_most 83 = .ok (.iadd, 1) := by decide +kernel
theorem dX0_most_84 : decode cX0_most 84 = .ok (.iastore, 1) := by decide +kernel
theorem dX0_most_85 : decode cX0_most 85 = .ok (.goto 40, 3) := by decide +kernel
theorem dX0_most_88 : decode cX0_most 88 = .ok (.aload_n 0, 1) := by decide +kernel
theorem dX0_most_89 : decode cX0_most 89 = .ok (.getfield 11, 3) := by decide +kernel
theorem dX0_most_92 : decode cX0_most 92 = .ok (.iload 7, 2) := by decide +kernel
theorem dX0_most_94 : decode cX0_most 94 = .ok (.aaload, 1) := by decide +kernel
theorem dX0_most_95 : decode cX0_most 95 = .ok (.iload 8, 2) := by decide +kernel
theorem dX0_most_97 : decode cX0_most 97 = .ok (.aload_n 0, 1) := by decide +kernel
theorem dX0_most_98 : decode cX0_most 98 = .ok (.getfield 11, 3) := by decide +kernel
theorem dX0_most_101 : decode cX0_most 101 = .ok (.iload 7, 2) := by decide +kernel
theorem dX0_most_103 : decode cX0_most 103 = .ok (.iconst 1, 1) := by decide +kernel
theorem dX0_most_104 : decode cX0_most 104 = .ok (.iadd, 1) := by decide +kernel
theorem dX0_most_105 : decode cX0_most 105 = .ok (.aaload, 1) := by decide +kernel
theorem dX0_most_106 : decode cX0_most 106 = .ok (.iload 8, 2) := by decide +kernel
theorem dX0_most_108 : decode cX0_most 108 = .ok (.iaload, 1) := by decide +kernel
theorem dX0_most_109 : decode cX0_most 109 = .ok (.aload_n 0, 1) := by decide +kernel
theorem dX0_most_110 : decode cX0_most 110 = .ok (.getfield 11, 3) := by decide +kernel
theorem dX0_most_113 : decode cX0_most 113 = .ok (.iload 7, 2) := by decide +kernel
theorem dX0_most_115 : decode cX0_most 115 = .ok (.aaload, 1) := by decide +kernel
theorem dX0_most_116 : decode cX0_most 116 = .ok (.iload 8, 2) := by decide +kernel
theorem dX0_most_118 : decode cX0_most 118 = .ok (.iconst 1, 1) := by decide +kernel
theorem dX0_most_119 : decode cX0_most 119 = .ok (.iadd, 1) := by decide +kernel
theorem dX0_most_120 : decode cX0_most 120 = .ok (.iaload, 1) := by decide +kernel
theorem dX0_most_121 : decode cX0_most 121 = .ok (.invokestatic 16, 3) := by decide +kernel
theorem dX0_most_124 : decode cX0_most 124 = .ok (.iastore, 1) := by decide +kernel
theorem dX0_most_125 : decode cX0_most 125 = .ok (.iinc 8 (-1), 3) := by decide +kernel
theorem dX0_most_128 : decode cX0_most 128 = .ok (.goto (-115), 3) := by decide +kernel
theorem dX0_most_131 : decode cX0_most 131 = .ok (.iinc 7 (-1), 3) := by decide +kernel
theorem dX0_most_134 : decode cX0_most 134 = .ok (.goto (-131), 3) := by decide +kernel
theorem dX0_most_137 : decode cX0_most 137 = .ok (.aload_n 0, 1) := by decide +kernel
theorem dX0_most_138 : decode cX0_most 138 = .ok (.getfield 11, 3) := by decide +kernel
theorem dX0_most_141 : decode cX0_most 141 = .ok (.iload_n 2, 1) := by decide +kernel
theorem dX0_most_142 : decode cX0_most 142 = .ok (.aaload, 1) := by decide +kernel
theorem dX0_most_143 : decode cX0_most 143 = .ok (.iload 5, 2) := by decide +kernel
theorem dX0_most_145 : decode cX0_most 145 = .ok (.iaload, 1) := by decide +kernel
theorem dX0_most_146 : decode cX0_most 146 = .ok (.ireturn, 1) := by decide +kernel
theorem dX1_init_0 : decode cX1_init 0 = .ok (.aload_n 0, 1) := by decide +kernel
theorem dX1_init_1 : decode cX1_init 1 = .ok (.invokespecial 3, 3) := by decide +kernel
theorem dX1_init_4 : decode cX1_init 4 = .ok (.aload_n 0, 1) := by decide +kernel
theorem dX1_init_5 : decode cX1_init 5 = .ok (.new 9, 3) := by decide +kernel
theorem dX1_init_8 : decode cX1_init 8 = .ok (.dup, 1) := by decide +kernel
theorem dX1_init_9 : decode cX1_init 9 = .ok (.invokespecial 11, 3) := by decide +kernel
theorem dX1_init_12 : decode cX1_init 12 = .ok (.putfield 12, 3) := by decide +kernel
theorem dX1_init_15 : decode cX1_init 15 = .ok (.aload_n 0, 1) := by decide +kernel
theorem dX1_init_16 : decode cX1_init 16 = .ok (.iconst 3, 1) := by decide +kernel
theorem dX1_init_17 : decode cX1_init 17 = .ok (.newarray .int, 2) := by decide +kernel
theorem dX1_init_19 : decode cX1_init 19 = .ok (.putfield 18, 3) := by decide +kernel
theorem dX1_init_22 : decode cX1_init 22 = .ok (.aload_n 0, 1) := by decide +kernel
theorem dX1_init_23 : decode cX1_init 23 = .ok (.iconst 3, 1) := by decide +kernel
theorem dX1_init_24 : decode cX1_init 24 = .ok (.newarray .int, 2) := by decide +kernel
theorem dX1_init_26 : decode cX1_init 26 = .ok (.putfield 22, 3) := by decide +kernel
theorem dX1_init_29 : decode cX1_init 29 = .ok (.return_, 1) := by decide +kernel
theorem dX1_commonLetters_0 : decode cX1_commonLetters 0 = .ok (.iconst 0, 1) := by decide +kernel
theorem dX1_commonLetters_1 : decode cX1_commonLetters 1 = .ok (.istore_n 3, 1) := by decide +kernel
theorem dX1_commonLetters_2 : decode cX1_commonLetters 2 = .ok (.iload_n 3, 1) := by decide +kernel
theorem dX1_commonLetters_3 : decode cX1_commonLetters 3 = .ok (.iconst 3, 1) := by decide +kernel
theorem dX1_commonLetters_4 : decode cX1_commonLetters 4 = .ok (.if_icmp .ge 31, 3) := by decide +kernel
theorem dX1_commonLetters_7 : decode cX1_commonLetters 7 = .ok (.aload_n 0, 1) := by decide +kernel
theorem dX1_commonLetters_8 : decode cX1_commonLetters 8 = .ok (.getfield 18, 3) := by decide +kernel
theorem dX1_commonLetters_11 : decode cX1_commonLetters 11 = .ok (.iload_n 3, 1) := by decide +kernel
theorem dX1_commonLetters_12 : decode cX1_commonLetters 12 = .ok (.iload_n 1, 1) := by decide +kernel
theorem dX1_commonLetters_13 : decode cX1_commonLetters 13 = .ok (.iload_n 3, 1) := by decide +kernel
theorem dX1_commonLetters_14 : decode cX1_commonLetters 14 = .ok (.invokestatic 25, 3) := by decide +kernel
theorem dX1_commonLetters_17 : decode cX1_commonLetters 17 = .ok (.iastore, 1) := by decide +kernel
theorem dX1_commonLetters_18 : decode cX1_commonLetters 18 = .ok (.aload_n 0, 1) := by decide +kernel
theorem dX1_commonLetters_19 : decode cX1_commonLetters 19 = .ok (.getfield 22, 3) := by decide +kernel
theorem dX1_commonLetters_22 : decode cX1_commonLetters 22 = .ok (.iload_n 3, 1) := by decide +kernel
theorem dX1_commonLetters_23 : decode cX1_commonLetters 23 = .ok (.iload_n 2, 1) := by decide +kernel
theorem dX1_commonLetters_24 : decode cX1_commonLetters 24 = .ok (.iload_n 3, 1) := by decide +kernel
theorem dX1_commonLetters_25 : decode cX1_commonLetters 25 = .ok (.invokestatic 25, 3) := by decide +kernel
theorem dX1_commonLetters_28 : decode cX1_commonLetters 28 = .ok (.iastore, 1) := by decide +kernel
theorem dX1_commonLetters_29 : decode cX1_commonLetters 29 = .ok (.iinc 3 1, 3) := by decide +kernel
theorem dX1_commonLetters_32 : decode cX1_commonLetters 32 = .ok (.goto (-30), 3) := by decide +kernel
theorem dX1_commonLetters_35 : decode cX1_commonLetters 35 = .ok (.aload_n 0, 1) := by decide +kernel
theorem dX1_commonLetters_36 : decode cX1_commonLetters 36 = .ok (.getfield 12, 3) := by decide +kernel
theorem dX1_commonLetters_39 : decode cX1_commonLetters 39 = .ok (.aload_n 0, 1) := by decide +kernel
theorem dX1_commonLetters_40 : decode cX1_commonLetters 40 = .ok (.getfield 18, 3) := by decide +kernel
theorem dX1_commonLetters_43 : decode cX1_commonLetters 43 = .ok (.iconst 0, 1) := by decide +kernel
theorem dX1_commonLetters_44 : decode cX1_commonLetters 44 = .ok (.iload_n 1, 1) := by decide +kernel
theorem dX1_commonLetters_45 : decode cX1_commonLetters 45 = .ok (.invokestatic 29, 3) := by decide +kernel
theorem dX1_commonLetters_48 : decode cX1_commonLetters 48 = .ok (.aload_n 0, 1) := by decide +kernel
theorem dX1_commonLetters_49 : decode cX1_commonLetters 49 = .ok (.getfield 22, 3) := by decide +kernel
theorem dX1_commonLetters_52 : decode cX1_commonLetters 52 = .ok (.iconst 0, 1) := by decide +kernel
theorem dX1_commonLetters_53 : decode cX1_commonLetters 53 = .ok (.iload_n 2, 1) := by decide +kernel
theorem dX1_commonLetters_54 : decode cX1_commonLetters 54 = .ok (.invokestatic 29, 3) := by decide +kernel
theorem dX1_commonLetters_57 : decode cX1_commonLetters 57 = .ok (.invokevirtual 33, 3) := by decide +kernel
theorem dX1_commonLetters_60 : decode cX1_commonLetters 60 = .ok (.ireturn, 1) := by decide +kernel
theorem dX1_fraction_0 : decode cX1_fraction 0 = .ok (.iload_n 1, 1) := by decide +kernel
theorem dX1_fraction_1 : decode cX1_fraction 1 = .ok (.invokestatic 29, 3) := by decide +kernel
theorem dX1_fraction_4 : decode cX1_fraction 4 = .ok (.iload_n 2, 1) := by decide +kernel
theorem dX1_fraction_5 : decode cX1_fraction 5 = .ok (.invokestatic 29, 3) := by decide +kernel
theorem dX1_fraction_8 : decode cX1_fraction 8 = .ok (.iadd, 1) := by decide +kernel
theorem dX1_fraction_9 : decode cX1_fraction 9 = .ok (.istore_n 3, 1) := by decide +kernel
theorem dX1_fraction_10 : decode cX1_fraction 10 = .ok (.iload_n 3, 1) := by decide +kernel
theorem dX1_fraction_11 : decode cX1_fraction 11 = .ok (.ifCond .gt 5, 3) := by decide +kernel
theorem dX1_fraction_14 : decode cX1_fraction 14 = .ok (.fconst 0, 1) := by decide +kernel
theorem dX1_fraction_15 : decode cX1_fraction 15 = .ok (.freturn, 1) := by decide +kernel
theorem dX1_fraction_16 : decode cX1_fraction 16 = .ok (.iconst 2, 1) := by decide +kernel
theorem dX1_fraction_17 : decode cX1_fraction 17 = .ok (.aload_n 0, 1) := by decide +kernel
theorem dX1_fraction_18 : decode cX1_fraction 18 = .ok (.iload_n 1, 1) := by decide +kernel
theorem dX1_fraction_19 : decode cX1_fraction 19 = .ok (.iload_n 2, 1) := by decide +kernel
theorem dX1_fraction_20 : decode cX1_fraction 20 = .ok (.invokevirtual 37, 3) := by decide +kernel
theorem dX1_fraction_23 : decode cX1_fraction 23 = .ok (.imul, 1) := by decide +kernel
theorem dX1_fraction_24 : decode cX1_fraction 24 = .ok (.i2f, 1) := by decide +kernel
theorem dX1_fraction_25 : decode cX1_fraction 25 = .ok (.iload_n 3, 1) := by decide +kernel
theorem dX1_fraction_26 : decode cX1_fraction 26 = .ok (.i2f, 1) := by decide +kernel
theorem dX1_fraction_27 : decode cX1_fraction 27 = .ok (.fdiv, 1) := by decide +kernel
theorem dX1_fraction_28 : decode cX1_fraction 28 = .ok (.freturn, 1) := by decide +kernel
theorem dX2_init_0 : decode cX2_init 0 = .ok (.aload_n 0, 1) := by decide +kernel
theorem dX2_init_1 : decode cX2_init 1 = .ok (.invokespecial 3, 3) := by decide +kernel
theorem dX2_init_4 : decode cX2_init 4 = .ok (.aload_n 0, 1) := by decide +kernel
theorem dX2_init_5 : decode cX2_init 5 = .ok (.new 9, 3) := by decide +kernel
theorem dX2_init_8 : decode cX2_init 8 = .ok (.dup, 1) := by decide +kernel
theorem dX2_init_9 : decode cX2_init 9 = .ok (.invokespecial 11, 3) := by decide +kernel
theorem dX2_init_12 : decode cX2_init 12 = .ok (.putfield 12, 3) := by decide +kernel
theorem dX2_init_15 : decode cX2_init 15 = .ok (.aload_n 0, 1) := by decide +kernel
theorem dX2_init_16 : decode cX2_init 16 = .ok (.iconst 2, 1) := by decide +kernel
theorem dX2_init_17 : decode cX2_init 17 = .ok (.bipush 8, 2) := by decide +kernel
theorem dX2_init_19 : decode cX2_init 19 = .ok (.multianewarray 18 2, 4) := by decide +kernel
theorem dX2_init_23 : decode cX2_init 23 = .ok (.putfield 20, 3) := by decide +kernel
theorem dX2_init_26 : decode cX2_init 26 = .ok (.aload_n 0, 1) := by decide +kernel
theorem dX2_init_27 : decode cX2_init 27 = .ok (.new 23, 3) := by decide +kernel
theorem dX2_init_30 : decode cX2_init 30 = .ok (.dup, 1) := by decide +kernel
theorem dX2_init_31 : decode cX2_init 31 = .ok (.invokespecial 25, 3) := by decide +kernel
theorem dX2_init_34 : decode cX2_init 34 = .ok (.putfield 26, 3) := by decide +kernel
theorem dX2_init_37 : decode cX2_init 37 = .ok (.aload_n 0, 1) := by decide +kernel
theorem dX2_init_38 : decode cX2_init 38 = .ok (.bipush 8, 2) := by decide +kernel
theorem dX2_init_40 : decode cX2_init 40 = .ok (.newarray .int, 2) := by decide +kernel
theorem dX2_init_42 : decode cX2_init 42 = .ok (.putfield 30, 3) := by decide +kernel
theorem dX2_init_45 : decode cX2_init 45 = .ok (.aload_n 0, 1) := by decide +kernel
theorem dX2_init_46 : decode cX2_init 46 = .ok (.bipush 8, 2) := by decide +kernel
theorem dX2_init_48 : decode cX2_init 48 = .ok (.newarray .int, 2) := by decide +kernel
theorem dX2_init_50 : decode cX2_init 50 = .ok (.putfield 34, 3) := by decide +kernel
theorem dX2_init_53 : decode cX2_init 53 = .ok (.aload_n 0, 1) := by decide +kernel
theorem dX2_init_54 : decode cX2_init 54 = .ok (.iconst 2, 1) := by decide +kernel
theorem dX2_init_55 : decode cX2_init 55 = .ok (.newarray .int, 2) := by decide +kernel
theorem dX2_init_57 : decode cX2_init 57 = .ok (.putfield 37, 3) := by decide +kernel
theorem dX2_init_60 : decode cX2_init 60 = .ok (.aload_n 0, 1) := by decide +kernel
theorem dX2_init_61 : decode cX2_init 61 = .ok (.iconst 2, 1) := by decide +kernel
theorem dX2_init_62 : decode cX2_init 62 = .ok (.newarray .int, 2) := by decide +kernel
theorem dX2_init_64 : decode cX2_init 64 = .ok (.putfield 40, 3) := by decide +kernel
theorem dX2_init_67 : decode cX2_init 67 = .ok (.aload_n 0, 1) := by decide +kernel
theorem dX2_init_68 : decode cX2_init 68 = .ok (.iconst 0, 1) := by decide +kernel
theorem dX2_init_69 : decode cX2_init 69 = .ok (.putfield 43, 3) := by decide +kernel
theorem dX2_init_72 : decode cX2_init 72 = .ok (.aload_n 0, 1) := by decide +kernel
theorem dX2_init_73 : decode cX2_init 73 = .ok (.iconst 0, 1) := by decide +kernel
theorem dX2_init_74 : decode cX2_init 74 = .ok (.putfield 47, 3) := by decide +kernel
theorem dX2_init_77 : decode cX2_init 77 = .ok (.return_, 1) := by decide +kernel
theorem dX2_compare_0 : decode cX2_compare 0 = .ok (.aload_n 0, 1) := by decide +kernel
theorem dX2_compare_1 : decode cX2_compare 1 = .ok (.iconst 0, 1) := by decide +kernel
theorem dX2_compare_2 : decode cX2_compare 2 = .ok (.putfield 43, 3) := by decide +kernel
theorem dX2_compare_5 : decode cX2_compare 5 = .ok (.aload_n 0, 1) := by decide +kernel
theorem dX2_compare_6 : decode cX2_compare 6 = .ok (.iconst 0, 1) := by decide +kernel
theorem dX2_compare_7 : decode cX2_compare 7 = .ok (.putfield 47, 3) := by decide +kernel
theorem dX2_compare_10 : decode cX2_compare 10 = .ok (.iconst 0, 1) := by decide +kernel
theorem dX2_compare_11 : decode cX2_compare 11 = .ok (.istore_n 1, 1) := by decide +kernel
theorem dX2_compare_12 : decode cX2_compare 12 = .ok (.iload_n 1, 1) := by decide +kernel
theorem dX2_compare_13 : decode cX2_compare 13 = .ok (.bipush 8, 2) := by decide +kernel
theorem dX2_compare_15 : decode cX2_compare 15 = .ok (.if_icmp .ge 27, 3) := by decide +kernel
theorem dX2_compare_18 : decode cX2_compare 18 = .ok (.aload_n 0, 1) := by decide +kernel
theorem dX2_compare_19 : decode cX2_compare 19 = .ok (.getfield 20, 3) := by decide +kernel
theorem dX2_compare_22 : decode cX2_compare 22 = .ok (.iconst 0, 1) := by decide +kernel
theorem dX2_compare_23 : decode cX2_compare 23 = .ok (.aaload, 1) := by decide +kernel
theorem dX2_compare_24 : decode cX2_compare 24 = .ok (.iload_n 1, 1) := by decide +kernel
theorem dX2_compare_25 : decode cX2_compare 25 = .ok (.iconst (-1), 1) := by decide +kernel
theorem dX2_compare_26 : decode cX2_compare 26 = .ok (.iastore, 1) := by decide +kernel
theorem dX2_compare_27 : decode cX2_compare 27 = .ok (.aload_n 0, 1) := by decide +kernel
theorem dX2_compare_28 : decode cX2_compare 28 = .ok (.getfield 20, 3) := by decide +kernel
theorem dX2_compare_31 : decode cX2_compare 31 = .ok (.iconst 1, 1) := by decide +kernel
theorem dX2_compare_32 : decode cX2_compare 32 = .ok (.aaload, 1) := by decide +kernel
theorem dX2_compare_33 : decode cX2_compare 33 = .ok (.iload_n 1, 1) := by decide +kernel
theorem dX2_compare_34 : decode cX2_compare 34 = .ok (.iconst (-1), 1) := by decide +kernel
theorem dX2_compare_35 : decode cX2_compare 35 = .ok (.iastore, 1) := by decide +kernel
theorem dX2_compare_36 : decode cX2_compare 36 = .ok (.iinc 1 1, 3) := by decide +kernel
theorem dX2_compare_39 : decode cX2_compare 39 = .ok (.goto (-27), 3) := by decide +kernel
theorem dX2_compare_42 : decode cX2_compare 42 = .ok (.aload_n 0, 1) := by decide +kernel
theorem dX2_compare_43 : decode cX2_compare 43 = .ok (.iconst 0, 1) := by decide +kernel
theorem dX2_compare_44 : decode cX2_compare 44 = .ok (.aload_n 0, 1) := by decide +kernel
theorem dX2_compare_45 : decode cX2_compare 45 = .ok (.getfield 12, 3) := by decide +kernel
theorem dX2_compare_48 : decode cX2_compare 48 = .ok (.getfield 50, 3) := by decide +kernel
theorem dX2_compare_51 : decode cX2_compare 51 = .ok (.iconst 0, 1) := by decide +kernel
theorem dX2_compare_52 : decode cX2_compare 52 = .ok (.iaload, 1) := by decide +kernel
theorem dX2_compare_53 : decode cX2_compare 53 = .ok (.iconst 0, 1) := by decide +kernel
theorem dX2_compare_54 : decode cX2_compare 54 = .ok (.aload_n 0, 1) := by decide +kernel
theorem dX2_compare_55 : decode cX2_compare 55 = .ok (.getfield 12, 3) := by decide +kernel
theorem dX2_compare_58 : decode cX2_compare 58 = .ok (.getfield 50, 3) := by decide +kernel
theorem dX2_compare_61 : decode cX2_compare 61 = .ok (.iconst 1, 1) := by decide +kernel
theorem dX2_compare_62 : decode cX2_compare 62 = .ok (.iaload, 1) := by decide +kernel
theorem dX2_compare_63 : decode cX2_compare 63 = .ok (.iconst 0, 1) := by decide +kernel
theorem dX2_compare_64 : decode cX2_compare 64 = .ok (.invokevirtual 53, 3) := by decide +kernel
theorem dX2_compare_67 : decode cX2_compare 67 = .ok (.aload_n 0, 1) := by decide +kernel
theorem dX2_compare_68 : decode cX2_compare 68 = .ok (.invokevirtual 57, 3) := by decide +kernel
theorem dX2_compare_71 : decode cX2_compare 71 = .ok (.return_, 1) := by decide +kernel
theorem dX2_kept_0 : decode cX2_kept 0 = .ok (.iconst 0, 1) := by decide +kernel
theorem dX2_kept_1 : decode cX2_kept 1 = .ok (.istore_n 1, 1) := by decide +kernel
theorem dX2_kept_2 : decode cX2_kept 2 = .ok (.iconst 0, 1) := by decide +kernel
theorem dX2_kept_3 : decode cX2_kept 3 = .ok (.istore_n 2, 1) := by decide +kernel
theorem dX2_kept_4 : decode cX2_kept 4 = .ok (.iload_n 2, 1) := by decide +kernel
theorem dX2_kept_5 : decode cX2_kept 5 = .ok (.aload_n 0, 1) := by decide +kernel
theorem dX2_kept_6 : decode cX2_kept 6 = .ok (.getfield 12, 3) := by decide +kernel
theorem dX2_kept_9 : decode cX2_kept 9 = .ok (.getfield 50, 3) := by decide +kernel
theorem dX2_kept_12 : decode cX2_kept 12 = .ok (.iconst 0, 1) := by decide +kernel
theorem dX2_kept_13 : decode cX2_kept 13 = .ok (.iaload, 1) := by decide +kernel
theorem dX2_kept_14 : decode cX2_kept 14 = .ok (.if_icmp .ge 29, 3) := by decide +kernel
theorem dX2_kept_17 : decode cX2_kept 17 = .ok (.iload_n 1, 1) := by decide +kernel
theorem dX2_kept_18 : decode cX2_kept 18 = .ok (.aload_n 0, 1) := by decide +kernel
theorem dX2_kept_19 : decode cX2_kept 19 = .ok (.getfield 20, 3) := by decide +kernel
theorem dX2_kept_22 : decode cX2_kept 22 = .ok (.iconst 0, 1) := by decide +kernel
theorem dX2_kept_23 : decode cX2_kept 23 = .ok (.aaload, 1) := by decide +kernel
theorem dX2_kept_24 : decode cX2_kept 24 = .ok (.iload_n 2, 1) := by decide +kernel
theorem dX2_kept_25 : decode cX2_kept 25 = .ok (.iaload, 1) := by decide +kernel
theorem dX2_kept_26 : decode cX2_kept 26 = .ok (.iconst (-1), 1) := by decide +kernel
theorem dX2_kept_27 : decode cX2_kept 27 = .ok (.if_icmp .ne 7, 3) := by decide +kernel
theorem dX2_kept_30 : decode cX2_kept 30 = .ok (.iconst 0, 1) := by decide +kernel
theorem dX2_kept_31 : decode cX2_kept 31 = .ok (.goto 4, 3) := by decide +kernel
theorem dX2_kept_34 : decode cX2_kept 34 = .ok (.iconst 1, 1) := by decide +kernel
theorem dX2_kept_35 : decode cX2_kept 35 = .ok (.iadd, 1) := by decide +kernel
theorem dX2_kept_36 : decode cX2_kept 36 = .ok (.istore_n 1, 1) := by decide +kernel
theorem dX2_kept_37 : decode cX2_kept 37 = .ok (.iinc 2 1, 3) := by decide +kernel
theorem dX2_kept_40 : decode cX2_kept 40 = .ok (.goto (-36), 3) := by decide +kernel
theorem dX2_kept_43 : decode cX2_kept 43 = .ok (.iload_n 1, 1) := by decide +kernel
theorem dX2_kept_44 : decode cX2_kept 44 = .ok (.ireturn, 1) := by decide +kernel
theorem dX2_notKept_0 : decode cX2_notKept 0 = .ok (.aload_n 0, 1) := by decide +kernel
theorem dX2_notKept_1 : decode cX2_notKept 1 = .ok (.getfield 12, 3) := by decide +kernel
theorem dX2_notKept_4 : decode cX2_notKept 4 = .ok (.invokevirtual 60, 3) := by decide +kernel
theorem dX2_notKept_7 : decode cX2_notKept 7 = .ok (.iconst 2, 1) := by decide +kernel
theorem dX2_notKept_8 : decode cX2_notKept 8 = .ok (.aload_n 0, 1) := by decide +kernel
theorem dX2_notKept_9 : decode cX2_notKept 9 = .ok (.invokevirtual 64, 3) := by decide +kernel
theorem dX2_notKept_12 : decode cX2_notKept 12 = .ok (.imul, 1) := by decide +kernel
theorem dX2_notKept_13 : decode cX2_notKept 13 = .ok (.isub, 1) := by decide +kernel
theorem dX2_notKept_14 : decode cX2_notKept 14 = .ok (.ireturn, 1) := by decide +kernel
theorem dX2_shortest_0 : decode cX2_shortest 0 = .ok (.aload_n 0, 1) := by decide +kernel
theorem dX2_shortest_1 : decode cX2_shortest 1 = .ok (.getfield 26, 3) := by decide +kernel
theorem dX2_shortest_4 : decode cX2_shortest 4 = .ok (.aload_n 0, 1) := by decide +kernel
theorem dX2_shortest_5 : decode cX2_shortest 5 = .ok (.getfield 12, 3) := by decide +kernel
theorem dX2_shortest_8 : decode cX2_shortest 8 = .ok (.getfield 67, 3) := by decide +kernel
theorem dX2_shortest_11 : decode cX2_shortest 11 = .ok (.iconst 0, 1) := by decide +kernel
theorem dX2_shortest_12 : decode cX2_shortest 12 = .ok (.aaload, 1) := by decide +kernel
theorem dX2_shortest_13 : decode cX2_shortest 13 = .ok (.iconst 0, 1) := by decide +kernel
theorem dX2_shortest_14 : decode cX2_shortest 14 = .ok (.aload_n 0, 1) := by decide +kernel
theorem dX2_shortest_15 : decode cX2_shortest 15 = .ok (.getfield 12, 3) := by decide +kernel
theorem dX2_shortest_18 : decode cX2_shortest 18 = .ok (.getfield 50, 3) := by decide +kernel
theorem dX2_shortest_21 : decode cX2_shortest 21 = .ok (.iconst 0, 1) := by decide +kernel
theorem dX2_shortest_22 : decode cX2_shortest 22 = .ok (.iaload, 1) := by decide +kernel
theorem dX2_shortest_23 : decode cX2_shortest 23 = .ok (.aload_n 0, 1) := by decide +kernel
theorem dX2_shortest_24 : decode cX2_shortest 24 = .ok (.getfield 12, 3) := by decide +kernel
theorem dX2_shortest_27 : decode cX2_shortest 27 = .ok (.getfield 67, 3) := by decide +kernel
theorem dX2_shortest_30 : decode cX2_shortest 30 = .ok (.iconst 1, 1) := by decide +kernel
theorem dX2_shortest_31 : decode cX2_shortest 31 = .ok (.aaload, 1) := by decide +kernel
theorem dX2_shortest_32 : decode cX2_shortest 32 = .ok (.iconst 0, 1) := by decide +kernel
theorem dX2_shortest_33 : decode cX2_shortest 33 = .ok (.aload_n 0, 1) := by decide +kernel
theorem dX2_shortest_34 : decode cX2_shortest 34 = .ok (.getfield 12, 3) := by decide +kernel
theorem dX2_shortest_37 : decode cX2_shortest 37 = .ok (.getfield 50, 3) := by decide +kernel
theorem dX2_shortest_40 : decode cX2_shortest 40 = .ok (.iconst 1, 1) := by decide +kernel
theorem dX2_shortest_41 : decode cX2_shortest 41 = .ok (.iaload, 1) := by decide +kernel
theorem dX2_shortest_42 : decode cX2_shortest 42 = .ok (.invokevirtual 70, 3) := by decide +kernel
theorem dX2_shortest_45 : decode cX2_shortest 45 = .ok (.istore_n 1, 1) := by decide +kernel
theorem dX2_shortest_46 : decode cX2_shortest 46 = .ok (.aload_n 0, 1) := by decide +kernel
theorem dX2_shortest_47 : decode cX2_shortest 47 = .ok (.getfield 12, 3) := by decide +kernel
theorem dX2_shortest_50 : decode cX2_shortest 50 = .ok (.invokevirtual 60, 3) := by decide +kernel
theorem dX2_shortest_53 : decode cX2_shortest 53 = .ok (.iconst 2, 1) := by decide +kernel
theorem dX2_shortest_54 : decode cX2_shortest 54 = .ok (.iload_n 1, 1) := by decide +kernel
theorem dX2_shortest_55 : decode cX2_shortest 55 = .ok (.imul, 1) := by decide +kernel
theorem dX2_shortest_56 : decode cX2_shortest 56 = .ok (.isub, 1) := by decide +kernel
theorem dX2_shortest_57 : decode cX2_shortest 57 = .ok (.ireturn, 1) := by decide +kernel
theorem dX2_keep_0 : decode cX2_keep 0 = .ok (.aload_n 0, 1) := by decide +kernel
theorem dX2_keep_1 : decode cX2_keep 1 = .ok (.getfield 20, 3) := by decide +kernel
theorem dX2_keep_4 : decode cX2_keep 4 = .ok (.iconst 0, 1) := by decide +kernel
theorem dX2_keep_5 : decode cX2_keep 5 = .ok (.aaload, 1) := by decide +kernel
theorem dX2_keep_6 : decode cX2_keep 6 = .ok (.iload_n 1, 1) := by decide +kernel
theorem dX2_keep_7 : decode cX2_keep 7 = .ok (.iload_n 2, 1) := by decide +kernel
theorem dX2_keep_8 : decode cX2_keep 8 = .ok (.iastore, 1) := by decide +kernel
theorem dX2_keep_9 : decode cX2_keep 9 = .ok (.aload_n 0, 1) := by decide +kernel
theorem dX2_keep_10 : decode cX2_keep 10 = .ok (.getfield 20, 3) := by decide +kernel
theorem dX2_keep_13 : decode cX2_keep 13 = .ok (.iconst 1, 1) := by decide +kernel
theorem dX2_keep_14 : decode cX2_keep 14 = .ok (.aaload, 1) := by decide +kernel
theorem dX2_keep_15 : decode cX2_keep 15 = .ok (.iload_n 2, 1) := by decide +kernel
theorem dX2_keep_16 : decode cX2_keep 16 = .ok (.iload_n 1, 1) := by decide +kernel
theorem dX2_keep_17 : decode cX2_keep 17 = .ok (.iastore, 1) := by decide +kernel
theorem dX2_keep_18 : decode cX2_keep 18 = .ok (.return_, 1) := by decide +kernel
theorem dX2_same_0 : decode cX2_same 0 = .ok (.aload_n 0, 1) := by decide +kernel
theorem dX2_same_1 : decode cX2_same 1 = .ok (.getfield 12, 3) := by decide +kernel
theorem dX2_same_4 : decode cX2_same 4 = .ok (.getfield 67, 3) := by decide +kernel
theorem dX2_same_7 : decode cX2_same 7 = .ok (.iconst 0, 1) := by decide +kernel
theorem dX2_same_8 : decode cX2_same 8 = .ok (.aaload, 1) := by decide +kernel
theorem dX2_same_9 : decode cX2_same 9 = .ok (.iload_n 1, 1) := by decide +kernel
theorem dX2_same_10 : decode cX2_same 10 = .ok (.iaload, 1) := by decide +kernel
theorem dX2_same_11 : decode cX2_same 11 = .ok (.aload_n 0, 1) := by decide +kernel
theorem dX2_same_12 : decode cX2_same 12 = .ok (.getfield 12, 3) := by decide +kernel
theorem dX2_same_15 : decode cX2_same 15 = .ok (.getfield 67, 3) := by decide +kernel
theorem dX2_same_18 : decode cX2_same 18 = .ok (.iconst 1, 1) := by decide +kernel
theorem dX2_same_19 : decode cX2_same 19 = .ok (.aaload, 1) := by decide +kernel
theorem dX2_same_20 : decode cX2_same 20 = .ok (.iload_n 2, 1) := by decide +kernel
theorem dX2_same_21 : decode cX2_same 21 = .ok (.iaload, 1) := by decide +kernel
theorem dX2_same_22 : decode cX2_same 22 = .ok (.if_icmp .ne 7, 3) := by decide +kernel
theorem dX2_same_25 : decode cX2_same 25 = .ok (.iconst 1, 1) := by decide +kernel
theorem dX2_same_26 : decode cX2_same 26 = .ok (.goto 4, 3) := by decide +kernel
theorem dX2_same_29 : decode cX2_same 29 = .ok (.iconst 0, 1) := by decide +kernel
theorem dX2_same_30 : decode cX2_same 30 = .ok (.ireturn, 1) := by decide +kernel
theorem dX2_matchParts_0 : decode cX2_matchParts 0 = .ok (.iload 5, 2) := by decide +kernel
theorem dX2_matchParts_2 : decode cX2_matchParts 2 = .ok (.bipush 8, 2) := by decide +kernel
theorem dX2_matchParts_4 : decode cX2_matchParts 4 = .ok (.if_icmp .le 4, 3) := by decide +kernel
theorem dX2_matchParts_7 : decode cX2_matchParts 7 = .ok (.return_, 1) := by decide +kernel
theorem dX2_matchParts_8 : decode cX2_matchParts 8 = .ok (.iload_n 1, 1) := by decide +kernel
theorem dX2_matchParts_9 : decode cX2_matchParts 9 = .ok (.istore 6, 2) := by decide +kernel
theorem dX2_matchParts_11 : decode cX2_matchParts 11 = .ok (.iload_n 3, 1) := by decide +kernel
theorem dX2_matchParts_12 : decode cX2_matchParts 12 = .ok (.istore 7, 2) := by decide +kernel
theorem dX2_matchParts_14 : decode cX2_matchParts 14 = .ok (.iload 6, 2) := by decide +kernel
theorem dX2_matchParts_16 : decode cX2_matchParts 16 = .ok (.iload_n 2, 1) := by decide +kernel
theorem dX2_matchParts_17 : decode cX2_matchParts 17 = .ok (.if_icmp .ge 38, 3) := by decide +kernel
theorem dX2_matchParts_20 : decode cX2_matchParts 20 = .ok (.iload 7, 2) := by decide +kernel
theorem dX2_matchParts_22 : decode cX2_matchParts 22 = .ok (.iload 4, 2) := by decide +kernel
theorem dX2_matchParts_24 : decode cX2_matchParts 24 = .ok (.if_icmp .ge 31, 3) := by decide +kernel
theorem dX2_matchParts_27 : decode cX2_matchParts 27 = .ok (.aload_n 0, 1) := by decide +kernel
theorem dX2_matchParts_28 : decode cX2_matchParts 28 = .ok (.iload 6, 2) := by decide +kernel
theorem dX2_matchParts_30 : decode cX2_matchParts 30 = .ok (.iload 7, 2) := by decide +kernel
theorem dX2_matchParts_32 : decode cX2_matchParts 32 = .ok (.invokevirtual 74, 3) := by decide +kernel
theorem dX2_matchParts_35 : decode cX2_matchParts 35 = .ok (.ifCond .eq 20, 3) := by decide +kernel
theorem dX2_matchParts_38 : decode cX2_matchParts 38 = .ok (.aload_n 0, 1) := by decide +kernel
theorem dX2_matchParts_39 : decode cX2_matchParts 39 = .ok (.iload 6, 2) := by decide +kernel
theorem dX2_matchParts_41 : decode cX2_matchParts 41 = .ok (.iload 7, 2) := by decide +kernel
theorem dX2_matchParts_43 : decode cX2_matchParts 43 = .ok (.invokevirtual 78, 3) := by decide +kernel
theorem dX2_matchParts_46 : decode cX2_matchParts 46 = .ok (.iinc 6 1, 3) := by decide +kernel
theorem dX2_matchParts_49 : decode cX2_matchParts 49 = .ok (.iinc 7 1, 3) := by decide +kernel
theorem dX2_matchParts_52 : decode cX2_matchParts 52 = .ok (.goto (-38), 3) := by decide +kernel
theorem dX2_matchParts_55 : decode cX2_matchParts 55 = .ok (.iload_n 2, 1) := by decide +kernel
theorem dX2_matchParts_56 : decode cX2_matchParts 56 = .ok (.istore 8, 2) := by decide +kernel
theorem dX2_matchParts_58 : decode cX2_matchParts 58 = .ok (.iload 4, 2) := by decide +kernel
theorem dX2_matchParts_60 : decode cX2_matchParts 60 = .ok (.istore 9, 2) := by decide +kernel
theorem dX2_matchParts_62 : decode cX2_matchParts 62 = .ok (.iload 8, 2) := by decide +kernel
theorem dX2_matchParts_64 : decode cX2_matchParts 64 = .ok (.iload 6, 2) := by decide +kernel
theorem dX2_matchParts_66 : decode cX2_matchParts 66 = .ok (.if_icmp .le 42, 3) := by decide +kernel
theorem dX2_matchParts_69 : decode cX2_matchParts 69 = .ok (.iload 9, 2) := by decide +kernel
theorem dX2_matchParts_71 : decode cX2_matchParts 71 = .ok (.iload 7, 2) := by decide +kernel
theorem dX2_matchParts_73 : decode cX2_matchParts 73 = .ok (.if_icmp .le 35, 3) := by decide +kernel
theorem dX2_matchParts_76 : decode cX2_matchParts 76 = .ok (.aload_n 0, 1) := by decide +kernel
theorem dX2_matchParts_77 : decode cX2_matchParts 77 = .ok (.iload 8, 2) := by decide +kernel
theorem dX2_matchParts_79 : decode cX2_matchParts 79 = .ok (.iconst 1, 1) := by decide +kernel
theorem dX2_matchParts_80 : decode cX2_matchParts 80 = .ok (.isub, 1) := by decide +kernel
theorem dX2_matchParts_81 : decode cX2_matchParts 81 = .ok (.iload 9, 2) := by decide +kernel
theorem dX2_matchParts_83 : decode cX2_matchParts 83 = .ok (.iconst 1, 1) := by decide +kernel
theorem dX2_matchParts_84 : decode cX2_matchParts 84 = .ok (.isub, 1) := by decide +kernel
theorem dX2_matchParts_85 : decode cX2_matchParts 85 = .ok (.invokevirtual 74, 3) := by decide +kernel
theorem dX2_matchParts_88 : decode cX2_matchParts 88 = .ok (.ifCond .eq 20, 3) := by decide +kernel
theorem dX2_matchParts_91 : decode cX2_matchParts 91 = .ok (.iinc 8 (-1), 3) := by decide +kernel
theorem dX2_matchParts_94 : decode cX2_matchParts 94 = .ok (.iinc 9 (-1), 3) := by decide +kernel
theorem dX2_matchParts_97 : decode cX2_matchParts 97 = .ok (.aload_n 0, 1) := by decide +kernel
theorem dX2_matchParts_98 : decode cX2_matchParts 98 = .ok (.iload 8, 2) := by decide +kernel
theorem dX2_matchParts_100 : decode cX2_matchParts 100 = .ok (.iload 9, 2) := by decide +kernel
theorem dX2_matchParts_102 : decode cX2_matchParts 102 = .ok (.invokevirtual 78, 3) := by decide +kernel
theorem dX2_matchParts_105 : decode cX2_matchParts 105 = .ok (.goto (-43), 3) := by decide +kernel
theorem dX2_matchParts_108 : decode cX2_matchParts 108 = .ok (.iload 6, 2) := by decide +kernel
theorem dX2_matchParts_110 : decode cX2_matchParts 110 = .ok (.iload 8, 2) := by decide +kernel
theorem dX2_matchParts_112 : decode cX2_matchParts 112 = .ok (.if_icmp .eq 10, 3) := by decide +kernel
theorem dX2_matchParts_115 : decode cX2_matchParts 115 = .ok (.iload 7, 2) := by decide +kernel
theorem dX2_matchParts_117 : decode cX2_matchParts 117 = .ok (.iload 9, 2) := by decide +kernel
theorem dX2_matchParts_119 : decode cX2_matchParts 119 = .ok (.if_icmp .ne 4, 3) := by decide +kernel
theorem dX2_matchParts_122 : decode cX2_matchParts 122 = .ok (.return_, 1) := by decide +kernel
theorem dX2_matchParts_123 : decode cX2_matchParts 123 = .ok (.aload_n 0, 1) := by decide +kernel
theorem dX2_matchParts_124 : decode cX2_matchParts 124 = .ok (.iload 6, 2) := by decide +kernel
theorem dX2_matchParts_126 : decode cX2_matchParts 126 = .ok (.iload 8, 2) := by decide +kernel
theorem dX2_matchParts_128 : decode cX2_matchParts 128 = .ok (.iload 7, 2) := by decide +kernel
theorem dX2_matchParts_130 : decode cX2_matchParts 130 = .ok (.iload 9, 2) := by decide +kernel
theorem dX2_matchParts_132 : decode cX2_matchParts 132 = .ok (.invokevirtual 82, 3) := by decide +kernel
theorem dX2_matchParts_135 : decode cX2_matchParts 135 = .ok (.aload_n 0, 1) := by decide +kernel
theorem dX2_matchParts_136 : decode cX2_matchParts 136 = .ok (.iload 6, 2) := by decide +kernel
theorem dX2_matchParts_138 : decode cX2_matchParts 138 = .ok (.iload 8, 2) := by decide +kernel
theorem dX2_matchParts_140 : decode cX2_matchParts 140 = .ok (.invokevirtual 86, 3) := by decide +kernel
theorem dX2_matchParts_143 : decode cX2_matchParts 143 = .ok (.ifCond .eq 20, 3) := by decide +kernel
theorem dX2_matchParts_146 : decode cX2_matchParts 146 = .ok (.aload_n 0, 1) := by decide +kernel
theorem dX2_matchParts_147 : decode cX2_matchParts 147 = .ok (.iload 6, 2) := by decide +kernel
theorem dX2_matchParts_149 : decode cX2_matchParts 149 = .ok (.iload 8, 2) := by decide +kernel
theorem dX2_matchParts_151 : decode cX2_matchParts 151 = .ok (.iload 7, 2) := by decide +kernel
theorem dX2_matchParts_153 : decode cX2_matchParts 153 = .ok (.iload 9, 2) := by decide +kernel
theorem dX2_matchParts_155 : decode cX2_matchParts 155 = .ok (.iload 5, 2) := by decide +kernel
theorem dX2_matchParts_157 : decode cX2_matchParts 157 = .ok (.invokevirtual 89, 3) := by decide +kernel
theorem dX2_matchParts_160 : decode cX2_matchParts 160 = .ok (.goto 15, 3) := by decide +kernel
theorem dX2_matchParts_163 : decode cX2_matchParts 163 = .ok (.aload_n 0, 1) := by decide +kernel
theorem dX2_matchParts_164 : decode cX2_matchParts 164 = .ok (.iload 6, 2) := by decide +kernel
theorem dX2_matchParts_166 : decode cX2_matchParts 166 = .ok (.iload 8, 2) := by decide +kernel
theorem dX2_matchParts_168 : decode cX2_matchParts 168 = .ok (.iload 7, 2) := by decide +kernel
theorem dX2_matchParts_170 : decode cX2_matchParts 170 = .ok (.iload 9, 2) := by decide +kernel
theorem dX2_matchParts_172 : decode cX2_matchParts 172 = .ok (.invokevirtual 92, 3) := by decide +kernel
theorem dX2_matchParts_175 : decode cX2_matchParts 175 = .ok (.return_, 1) := by decide +kernel
theorem dX2_findAnchors_0 : decode cX2_findAnchors 0 = .ok (.iload_n 1, 1) := by decide +kernel
theorem dX2_findAnchors_1 : decode cX2_findAnchors 1 = .ok (.istore 5, 2) := by decide +kernel
theorem dX2_findAnchors_3 : decode cX2_findAnchors 3 = .ok (.iload 5, 2) := by decide +kernel
theorem dX2_findAnchors_5 : decode cX2_findAnchors 5 = .ok (.iload_n 2, 1) := by decide +kernel
theorem dX2_findAnchors_6 : decode cX2_findAnchors 6 = .ok (.if_icmp .ge 70, 3) := by decide +kernel
theorem dX2_findAnchors_9 : decode cX2_findAnchors 9 = .ok (.aload_n 0, 1) := by decide +kernel
theorem dX2_findAnchors_10 : decode cX2_findAnchors 10 = .ok (.getfield 12, 3) := by decide +kernel
theorem dX2_findAnchors_13 : decode cX2_findAnchors 13 = .ok (.getfield 67, 3) := by decide +kernel
theorem dX2_findAnchors_16 : decode cX2_findAnchors 16 = .ok (.iconst 0, 1) := by decide +kernel
theorem dX2_findAnchors_17 : decode cX2_findAnchors 17 = .ok (.aaload, 1) := by decide +kernel
theorem dX2_findAnchors_18 : decode cX2_findAnchors 18 = .ok (.iload 5, 2) := by decide +kernel
theorem dX2_findAnchors_20 : decode cX2_findAnchors 20 = .ok (.iaload, 1) := by decide +kernel
theorem dX2_findAnchors_21 : decode cX2_findAnchors 21 = .ok (.istore 6, 2) := by decide +kernel
theorem dX2_findAnchors_23 : decode cX2_findAnchors 23 = .ok (.aload_n 0, 1) := by decide +kernel
theorem dX2_findAnchors_24 : decode cX2_findAnchors 24 = .ok (.iload 6, 2) := by decide +kernel
theorem dX2_findAnchors_26 : decode cX2_findAnchors 26 = .ok (.iconst 0, 1) := by decide +kernel
theorem dX2_findAnchors_27 : decode cX2_findAnchors 27 = .ok (.iload_n 1, 1) := by decide +kernel
theorem dX2_findAnchors_28 : decode cX2_findAnchors 28 = .ok (.iload_n 2, 1) := by decide +kernel
theorem dX2_findAnchors_29 : decode cX2_findAnchors 29 = .ok (.invokevirtual 95, 3) := by decide +kernel
theorem dX2_findAnchors_32 : decode cX2_findAnchors 32 = .ok (.iload 5, 2) := by decide +kernel
theorem dX2_findAnchors_34 : decode cX2_findAnchors 34 = .ok (.if_icmp .ne 7, 3) := by decide +kernel
theorem dX2_findAnchors_37 : decode cX2_findAnchors 37 = .ok (.iconst 1, 1) := by decide +kernel
theorem dX2_findAnchors_38 : decode cX2_findAnchors 38 = .ok (.goto 4, 3) := by decide +kernel
theorem dX2_findAnchors_41 : decode cX2_findAnchors 41 = .ok (.iconst 0, 1) := by decide +kernel
theorem dX2_findAnchors_42 : decode cX2_findAnchors 42 = .ok (.istore 7, 2) := by decide +kernel
theorem dX2_findAnchors_44 : decode cX2_findAnchors 44 = .ok (.aload_n 0, 1) := by decide +kernel
theorem dX2_findAnchors_45 : decode cX2_findAnchors 45 = .ok (.getfield 30, 3) := by decide +kernel
theorem dX2_findAnchors_48 : decode cX2_findAnchors 48 = .ok (.iload 5, 2) := by decide +kernel
theorem dX2_findAnchors_50 : decode cX2_findAnchors 50 = .ok (.iload 7, 2) := by decide +kernel
theorem dX2_findAnchors_52 : decode cX2_findAnchors 52 = .ok (.ifCond .eq 16, 3) := by decide +kernel
theorem dX2_findAnchors_55 : decode cX2_findAnchors 55 = .ok (.aload_n 0, 1) := by decide +kernel
theorem dX2_findAnchors_56 : decode cX2_findAnchors 56 = .ok (.iload 6, 2) := by decide +kernel
theorem dX2_findAnchors_58 : decode cX2_findAnchors 58 = .ok (.iconst 1, 1) := by decide +kernel
theorem dX2_findAnchors_59 : decode cX2_findAnchors 59 = .ok (.iload_n 3, 1) := by decide +kernel
theorem dX2_findAnchors_60 : decode cX2_findAnchors 60 = .ok (.iload 4, 2) := by decide +kernel
theorem dX2_findAnchors_62 : decode cX2_findAnchors 62 = .ok (.invokevirtual 95, 3) := by decide +kernel
theorem dX2_findAnchors_65 : decode cX2_findAnchors 65 = .ok (.goto 4, 3) := by decide +kernel
theorem dX2_findAnchors_68 : decode cX2_findAnchors 68 = .ok (.iconst (-1), 1) := by decide +kernel
theorem dX2_findAnchors_69 : decode cX2_findAnchors 69 = .ok (.iastore, 1) := by decide +kernel
theorem dX2_findAnchors_70 : decode cX2_findAnchors 70 = .ok (.iinc 5 1, 3) := by decide +kernel
theorem dX2_findAnchors_73 : decode cX2_findAnchors 73 = .ok (.goto (-70), 3) := by decide +kernel
theorem dX2_findAnchors_76 : decode cX2_findAnchors 76 = .ok (.return_, 1) := by decide +kernel
theorem dX2_onlyPlaceOf_0 : decode cX2_onlyPlaceOf 0 = .ok (.iconst (-1), 1) := by decide +kernel
theorem dX2_onlyPlaceOf_1 : decode cX2_onlyPlaceOf 1 = .ok (.istore 5, 2) := by decide +kernel
theorem dX2_onlyPlaceOf_3 : decode cX2_onlyPlaceOf 3 = .ok (.iload_n 3, 1) := by decide +kernel
theorem dX2_onlyPlaceOf_4 : decode cX2_onlyPlaceOf 4 = .ok (.istore 6, 2) := by decide +kernel
theorem dX2_onlyPlaceOf_6 : decode cX2_onlyPlaceOf 6 = .ok (.iload 6, 2) := by decide +kernel
theorem dX2_onlyPlaceOf_8 : decode cX2_onlyPlaceOf 8 = .ok (.iload 4, 2) := by decide +kernel
theorem dX2_onlyPlaceOf_10 : decode cX2_onlyPlaceOf 10 = .ok (.if_icmp .ge 37, 3) := by decide +kernel
theorem dX2_onlyPlaceOf_13 : decode cX2_onlyPlaceOf 13 = .ok (.aload_n 0, 1) := by decide +kernel
theorem dX2_onlyPlaceOf_14 : decode cX2_onlyPlaceOf 14 = .ok (.getfield 12, 3) := by decide +kernel
theorem dX2_onlyPlaceOf_17 : decode cX2_onlyPlaceOf 17 = .ok (.getfield 67, 3) := by decide +kernel
theorem dX2_onlyPlaceOf_20 : decode cX2_onlyPlaceOf 20 = .ok (.iload_n 2, 1) := by decide +kernel
theorem dX2_onlyPlaceOf_21 : decode cX2_onlyPlaceOf 21 = .ok (.aaload, 1) := by decide +kernel
theorem dX2_onlyPlaceOf_22 : decode cX2_onlyPlaceOf 22 = .ok (.iload 6, 2) := by decide +kernel
theorem dX2_onlyPlaceOf_24 : decode cX2_onlyPlaceOf 24 = .ok (.iaload, 1) := by decide +kernel
theorem dX2_onlyPlaceOf_25 : decode cX2_onlyPlaceOf 25 = .ok (.iload_n 1, 1) := by decide +kernel
theorem dX2_onlyPlaceOf_26 : decode cX2_onlyPlaceOf 26 = .ok (.if_icmp .ne 15, 3) := by decide +kernel
theorem dX2_onlyPlaceOf_29 : decode cX2_onlyPlaceOf 29 = .ok (.iload 5, 2) := by decide +kernel
theorem dX2_onlyPlaceOf_31 : decode cX2_onlyPlaceOf 31 = .ok (.iconst (-1), 1) := by decide +kernel
theorem dX2_onlyPlaceOf_32 : decode cX2_onlyPlaceOf 32 = .ok (.if_icmp .eq 5, 3) := by decide +kernel
theorem dX2_onlyPlaceOf_35 : decode cX2_onlyPlaceOf 35 = .ok (.iconst (-1), 1) := by decide +kernel
theorem dX2_onlyPlaceOf_36 : decode cX2_onlyPlaceOf 36 = .ok (.ireturn, 1) := by decide +kernel
theorem dX2_onlyPlaceOf_37 : decode cX2_onlyPlaceOf 37 = .ok (.iload 6, 2) := by decide +kernel
theorem dX2_onlyPlaceOf_39 : decode cX2_onlyPlaceOf 39 = .ok (.istore 5, 2) := by decide +kernel
theorem dX2_onlyPlaceOf_41 : decode cX2_onlyPlaceOf 41 = .ok (.iinc 6 1, 3) := by decide +kernel
theorem dX2_onlyPlaceOf_44 : decode cX2_onlyPlaceOf 44 = .ok (.goto (-38), 3) := by decide +kernel
theorem dX2_onlyPlaceOf_47 : decode cX2_onlyPlaceOf 47 = .ok (.iload 5, 2) := by decide +kernel
theorem dX2_onlyPlaceOf_49 : decode cX2_onlyPlaceOf 49 = .ok (.ireturn, 1) := by decide +kernel
theorem dX2_keepLongestChain_0 : decode cX2_keepLongestChain 0 = .ok (.aload_n 0, 1) := by decide +kernel
theorem dX2_keepLongestChain_1 : decode cX2_keepLongestChain 1 = .ok (.iload_n 1, 1) := by decide +kernel
theorem dX2_keepLongestChain_2 : decode cX2_keepLongestChain 2 = .ok (.iload_n 2, 1) := by decide +kernel
theorem dX2_keepLongestChain_3 : decode cX2_keepLongestChain 3 = .ok (.invokevirtual 99, 3) := by decide +kernel
theorem dX2_keepLongestChain_6 : decode cX2_keepLongestChain 6 = .ok (.istore_n 3, 1) := by decide +kernel
theorem dX2_keepLongestChain_7 : decode cX2_keepLongestChain 7 = .ok (.iload_n 3, 1) := by decide +kernel
theorem dX2_keepLongestChain_8 : decode cX2_keepLongestChain 8 = .ok (.ifCond .le 7, 3) := by decide +kernel
theorem dX2_keepLongestChain_11 : decode cX2_keepLongestChain 11 = .ok (.iconst 1, 1) := by decide +kernel
theorem dX2_keepLongestChain_12 : decode cX2_keepLongestChain 12 = .ok (.goto 4, 3) := by decide +kernel
theorem dX2_keepLongestChain_15 : decode cX2_keepLongestChain 15 = .ok (.iconst 0, 1) := by decide +kernel
theorem dX2_keepLongestChain_16 : decode cX2_keepLongestChain 16 = .ok (.istore 4, 2) := by decide +kernel
theorem dX2_keepLongestChain_18 : decode cX2_keepLongestChain 18 = .ok (.iconst (-1), 1) := by decide +kernel
theorem dX2_keepLongestChain_19 : decode cX2_keepLongestChain 19 = .ok (.istore 5, 2) := by decide +kernel
theorem dX2_keepLongestChain_21 : decode cX2_keepLongestChain 21 = .ok (.iload_n 1, 1) := by decide +kernel
theorem dX2_keepLongestChain_22 : decode cX2_keepLongestChain 22 = .ok (.istore 6, 2) := by decide +kernel
theorem dX2_keepLongestChain_24 : decode cX2_keepLongestChain 24 = .ok (.iload 6, 2) := by decide +kernel
theorem dX2_keepLongestChain_26 : decode cX2_keepLongestChain 26 = .ok (.iload_n 2, 1) := by decide +kernel
theorem dX2_keepLongestChain_27 : decode cX2_keepLongestChain 27 = .ok (.if_icmp .ge 62, 3) := by decide +kernel
theorem dX2_keepLongestChain_30 : decode cX2_keepLongestChain 30 = .ok (.aload_n 0, 1) := by decide +kernel
theorem dX2_keepLongestChain_31 : decode cX2_keepLongestChain 31 = .ok (.getfield 30, 3) := by decide +kernel
theorem dX2_keepLongestChain_34 : decode cX2_keepLongestChain 34 = .ok (.iload 6, 2) := by decide +kernel
theorem dX2_keepLongestChain_36 : decode cX2_keepLongestChain 36 = .ok (.iaload, 1) := by decide +kernel
theorem dX2_keepLongestChain_37 : decode cX2_keepLongestChain 37 = .ok (.iload 5, 2) := by decide +kernel
theorem dX2_keepLongestChain_39 : decode cX2_keepLongestChain 39 = .ok (.if_icmp .le 44, 3) := by decide +kernel
theorem dX2_keepLongestChain_42 : decode cX2_keepLongestChain 42 = .ok (.aload_n 0, 1) := by decide +kernel
theorem dX2_keepLongestChain_43 : decode cX2_keepLongestChain 43 = .ok (.getfield 34, 3) := by decide +kernel
theorem dX2_keepLongestChain_46 : decode cX2_keepLongestChain 46 = .ok (.iload 6, 2) := by decide +kernel
theorem dX2_keepLongestChain_48 : decode cX2_keepLongestChain 48 = .ok (.iaload, 1) := by decide +kernel
theorem dX2_keepLongestChain_49 : decode cX2_keepLongestChain 49 = .ok (.iload_n 3, 1) := by decide +kernel
theorem dX2_keepLongestChain_50 : decode cX2_keepLongestChain 50 = .ok (.if_icmp .ne 33, 3) := by decide +kernel
theorem dX2_keepLongestChain_53 : decode cX2_keepLongestChain 53 = .ok (.aload_n 0, 1) := by decide +kernel
theorem dX2_keepLongestChain_54 : decode cX2_keepLongestChain 54 = .ok (.getfield 30, 3) := by decide +kernel
theorem dX2_keepLongestChain_57 : decode cX2_keepLongestChain 57 = .ok (.iload 6, 2) := by decide +kernel
theorem dX2_keepLongestChain_59 : decode cX2_keepLongestChain 59 = .ok (.iaload, 1) := by decide +kernel
theorem dX2_keepLongestChain_60 : decode cX2_keepLongestChain 60 = .ok (.istore 5, 2) := by decide +kernel
theorem dX2_keepLongestChain_62 : decode cX2_keepLongestChain 62 = .ok (.aload_n 0, 1) := by decide +kernel
theorem dX2_keepLongestChain_63 : decode cX2_keepLongestChain 63 = .ok (.iload 6, 2) := by decide +kernel
theorem dX2_keepLongestChain_65 : decode cX2_keepLongestChain 65 = .ok (.iload 5, 2) := by decide +kernel
theorem dX2_keepLongestChain_67 : decode cX2_keepLongestChain 67 = .ok (.invokevirtual 78, 3) := by decide +kernel
theorem dX2_keepLongestChain_70 : decode cX2_keepLongestChain 70 = .ok (.aload_n 0, 1) := by decide +kernel
theorem dX2_keepLongestChain_71 : decode cX2_keepLongestChain 71 = .ok (.dup, 1) := by decide +kernel
theorem dX2_keepLongestChain_72 : decode cX2_keepLongestChain 72 = .ok (.getfield 43, 3) := by decide +kernel
theorem dX2_keepLongestChain_75 : decode cX2_keepLongestChain 75 = .ok (.iconst 1, 1) := by decide +kernel
theorem dX2_keepLongestChain_76 : decode cX2_keepLongestChain 76 = .ok (.iadd, 1) := by decide +kernel
theorem dX2_keepLongestChain_77 : decode cX2_keepLongestChain 77 = .ok (.putfield 43, 3) := by decide +kernel
theorem dX2_keepLongestChain_80 : decode cX2_keepLongestChain 80 = .ok (.iinc 3 (-1), 3) := by decide +kernel
theorem dX2_keepLongestChain_83 : decode cX2_keepLongestChain 83 = .ok (.iinc 6 1, 3) := by decide +kernel
theorem dX2_keepLongestChain_86 : decode cX2_keepLongestChain 86 = .ok (.goto (-62), 3) := by decide +kernel
theorem dX2_keepLongestChain_89 : decode cX2_keepLongestChain 89 = .ok (.iload 4, 2) := by decide +kernel
theorem dX2_keepLongestChain_91 : decode cX2_keepLongestChain 91 = .ok (.ireturn, 1) := by decide +kernel
theorem dX2_measureChains_0 : decode cX2_measureChains 0 = .ok (.iconst 0, 1) := by decide +kernel
theorem dX2_measureChains_1 : decode cX2_measureChains 1 = .ok (.istore_n 3, 1) := by decide +kernel
theorem dX2_measureChains_2 : decode cX2_measureChains 2 = .ok (.iload_n 2, 1) := by decide +kernel
theorem dX2_measureChains_3 : decode cX2_measureChains 3 = .ok (.iconst 1, 1) := by decide +kernel
theorem dX2_measureChains_4 : decode cX2_measureChains 4 = .ok (.isub, 1) := by decide +kernel
theorem dX2_measureChains_5 : decode cX2_measureChains 5 = .ok (.istore 4, 2) := by decide +kernel
theorem dX2_measureChains_7 : decode cX2_measureChains 7 = .ok (.iload 4, 2) := by decide +kernel
theorem dX2_measureChains_9 : decode cX2_measureChains 9 = .ok (.iload_n 1, 1) := by decide +kernel
theorem dX2_measureChains_10 : decode cX2_measureChains 10 = .ok (.if_icmp .lt 106, 3) := by decide +kernel
theorem dX2_measureChains_13 : decode cX2_measureChains 13 = .ok (.aload_n 0, 1) := by decide +kernel
theorem dX2_measureChains_14 : decode cX2_measureChains 14 = .ok (.getfield 34, 3) := by decide +kernel
theorem dX2_measureChains_17 : decode cX2_measureChains 17 = .ok (.iload 4, 2) := by decide +kernel
theorem dX2_measureChains_19 : decode cX2_measureChains 19 = .ok (.iconst 0, 1) := by decide +kernel
theorem dX2_measureChains_20 : decode cX2_measureChains 20 = .ok (.iastore, 1) := by decide +kernel
theorem dX2_measureChains_21 : decode cX2_measureChains 21 = .ok (.aload_n 0, 1) := by decide +kernel
theorem dX2_measureChains_22 : decode cX2_measureChains 22 = .ok (.getfield 30, 3) := by decide +kernel
theorem dX2_measureChains_25 : decode cX2_measureChains 25 = .ok (.iload 4, 2) := by decide +kernel
theorem dX2_measureChains_27 : decode cX2_measureChains 27 = .ok (.iaload, 1) := by decide +kernel
theorem dX2_measureChains_28 : decode cX2_measureChains 28 = .ok (.iconst (-1), 1) := by decide +kernel
theorem dX2_measureChains_29 : decode cX2_measureChains 29 = .ok (.if_icmp .ne 6, 3) := by decide +kernel
theorem dX2_measureChains_32 : decode cX2_measureChains 32 = .ok (.goto 78, 3) := by decide +kernel
theorem dX2_measureChains_35 : decode cX2_measureChains 35 = .ok (.iconst 0, 1) := by decide +kernel
theorem dX2_measureChains_36 : decode cX2_measureChains 36 = .ok (.istore 5, 2) := by decide +kernel
theorem dX2_measureChains_38 : decode cX2_measureChains 38 = .ok (.iload 4, 2) := by decide +kernel
theorem dX2_measureChains_40 : decode cX2_measureChains 40 = .ok (.iconst 1, 1) := by decide +kernel
theorem dX2_measureChains_41 : decode cX2_measureChains 41 = .ok (.iadd, 1) := by decide +kernel
theorem dX2_measureChains_42 : decode cX2_measureChains 42 = .ok (.istore 6, 2) := by decide +kernel
theorem dX2_measureChains_44 : decode cX2_measureChains 44 = .ok (.iload 6, 2) := by decide +kernel
theorem dX2_measureChains_46 : decode cX2_measureChains 46 = .ok (.iload_n 2, 1) := by decide +kernel
theorem dX2_measureChains_47 : decode cX2_measureChains 47 = .ok (.if_icmp .ge 40, 3) := by decide +kernel
theorem dX2_measureChains_50 : decode cX2_measureChains 50 = .ok (.aload_n 0, 1) := by decide +kernel
theorem dX2_measureChains_51 : decode cX2_measureChains 51 = .ok (.getfield 30, 3) := by decide +kernel
theorem dX2_measureChains_54 : decode cX2_measureChains 54 = .ok (.iload 6, 2) := by decide +kernel
theorem dX2_measureChains_56 : decode cX2_measureChains 56 = .ok (.iaload, 1) := by decide +kernel
theorem dX2_measureChains_57 : decode cX2_measureChains 57 = .ok (.aload_n 0, 1) := by decide +kernel
theorem dX2_measureChains_58 : decode cX2_measureChains 58 = .ok (.getfield 30, 3) := by decide +kernel
theorem dX2_measureChains_61 : decode cX2_measureChains 61 = .ok (.iload 4, 2) := by decide +kernel
theorem dX2_measureChains_63 : decode cX2_measureChains 63 = .ok (.iaload, 1) := by decide +kernel
theorem dX2_measureChains_64 : decode cX2_measureChains 64 = .ok (.if_icmp .le 17, 3) := by decide +kernel
theorem dX2_measureChains_67 : decode cX2_measureChains 67 = .ok (.iload 5, 2) := by decide +kernel
theorem dX2_measureChains_69 : decode cX2_measureChains 69 = .ok (.aload_n 0, 1) := by decide +kernel
theorem dX2_measureChains_70 : decode cX2_measureChains 70 = .ok (.getfield 34, 3) := by decide +kernel
theorem dX2_measureChains_73 : decode cX2_measureChains 73 = .ok (.iload 6, 2) := by decide +kernel
theorem dX2_measureChains_75 : decode cX2_measureChains 75 = .ok (.iaload, 1) := by decide +kernel
theorem dX2_measureChains_76 : decode cX2_measureChains 76 = .ok (.invokestatic 103, 3) := by decide +kernel
theorem dX2_measureChains_79 : decode cX2_measureChains 79 = .ok (.istore 5, 2) := by decide +kernel
theorem dX2_measureChains_81 : decode cX2_measureChains 81 = .ok (.iinc 6 1, 3) := by decide +kernel
theorem dX2_measureChains_84 : decode cX2_measureChains 84 = .ok (.goto (-40), 3) := by decide +kernel
theorem dX2_measureChains_87 : decode cX2_measureChains 87 = .ok (.aload_n 0, 1) := by decide +kernel
theorem dX2_measureChains_88 : decode cX2_measureChains 88 = .ok (.getfield 34, 3) := by decide +kernel
theorem dX2_measureChains_91 : decode cX2_measureChains 91 = .ok (.iload 4, 2) := by decide +kernel
theorem dX2_measureChains_93 : decode cX2_measureChains 93 = .ok (.iload 5, 2) := by decide +kernel
theorem dX2_measureChains_95 : decode cX2_measureChains 95 = .ok (.iconst 1, 1) := by decide +kernel
theorem dX2_measureChains_96 : decode cX2_measureChains 96 = .ok (.iadd, 1) := by decide +kernel
theorem dX2_measureChains_97 : decode cX2_measureChains 97 = .ok (.iastore, 1) := by decide +kernel
theorem dX2_measureChains_98 : decode cX2_measureChains 98 = .ok (.iload_n 3, 1) := by decide +kernel
theorem dX2_measureChains_99 : decode cX2_measureChains 99 = .ok (.aload_n 0, 1) := by decide +kernel
theorem dX2_measureChains_100 : decode cX2_measureChains 100 = .ok (.getfield 34, 3) := by decide +kernel
theorem dX2_measureChains_103 : decode cX2_measureChains 103 = .ok (.iload 4, 2) := by decide +kernel
theorem dX2_measureChains_105 : decode cX2_measureChains 105 = .ok (.iaload, 1) := by decide +kernel
theorem dX2_measureChains_106 : decode cX2_measureChains 106 = .ok (.invokestatic 103, 3) := by decide +kernel
theorem dX2_measureChains_109 : decode cX2_measureChains 109 = .ok (.istore_n 3, 1) := by decide +kernel
theorem dX2_measureChains_110 : decode cX2_measureChains 110 = .ok (.iinc 4 (-1), 3) := by decide +kernel
theorem dX2_measureChains_113 : decode cX2_measureChains 113 = .ok (.goto (-106), 3) := by decide +kernel
theorem dX2_measureChains_116 : decode cX2_measureChains 116 = .ok (.iload_n 3, 1) := by decide +kernel
theorem dX2_measureChains_117 : decode cX2_measureChains 117 = .ok (.ireturn, 1) := by decide +kernel
theorem dX2_matchBetweenAnchors_0 : decode cX2_matchBetweenAnchors 0 = .ok (.iload_n 1, 1) := by decide +kernel
theorem dX2_matchBetweenAnchors_1 : decode cX2_matchBetweenAnchors 1 = .ok (.istore 6, 2) := by decide +kernel
theorem dX2_matchBetweenAnchors_3 : decode cX2_matchBetweenAnchors 3 = .ok (.iload_n 3, 1) := by decide +kernel
theorem dX2_matchBetweenAnchors_4 : decode cX2_matchBetweenAnchors 4 = .ok (.istore 7, 2) := by decide +kernel
theorem dX2_matchBetweenAnchors_6 : decode cX2_matchBetweenAnchors 6 = .ok (.iload_n 1, 1) := by decide +kernel
theorem dX2_matchBetweenAnchors_7 : decode cX2_matchBetweenAnchors 7 = .ok (.istore 8, 2) := by decide +kernel
theorem dX2_matchBetweenAnchors_9 : decode cX2_matchBetweenAnchors 9 = .ok (.iload 8, 2) := by decide +kernel
theorem dX2_matchBetweenAnchors_11 : decode cX2_matchBetweenAnchors 11 = .ok (.iload_n 2, 1) := by decide +kernel
theorem dX2_matchBetweenAnchors_12 : decode cX2_matchBetweenAnchors 12 = .ok (.if_icmp .ge 54, 3) := by decide +kernel
theorem dX2_matchBetweenAnchors_15 : decode cX2_matchBetweenAnchors 15 = .ok (.aload_n 0, 1) := by decide +kernel
theorem dX2_matchBetweenAnchors_16 : decode cX2_matchBetweenAnchors 16 = .ok (.getfield 20, 3) := by decide +kernel
theorem dX2_matchBetweenAnchors_19 : decode cX2_matchBetweenAnchors 19 = .ok (.iconst 0, 1) := by decide +kernel
theorem dX2_matchBetweenAnchors_20 : decode cX2_matchBetweenAnchors 20 = .ok (.aaload, 1) := by decide +kernel
theorem dX2_matchBetweenAnchors_21 : decode cX2_matchBetweenAnchors 21 = .ok (.iload 8, 2) := by decide +kernel
theorem dX2_matchBetweenAnchors_23 : decode cX2_matchBetweenAnchors 23 = .ok (.iaload, 1) := by decide +kernel
theorem dX2_matchBetweenAnchors_24 : decode cX2_matchBetweenAnchors 24 = .ok (.istore 9, 2) := by decide +kernel
theorem dX2_matchBetweenAnchors_26 : decode cX2_matchBetweenAnchors 26 = .ok (.iload 9, 2) := by decide +kernel
theorem dX2_matchBetweenAnchors_28 : decode cX2_matchBetweenAnchors 28 = .ok (.iconst (-1), 1) := by decide +kernel
theorem dX2_matchBetweenAnchors_29 : decode cX2_matchBetweenAnchors 29 = .ok (.if_icmp .eq 31, 3) := by decide +kernel
theorem dX2_matchBetweenAnchors_32 : decode cX2_matchBetweenAnchors 32 = .ok (.aload_n 0, 1) := by decide +kernel
theorem dX2_matchBetweenAnchors_33 : decode cX2_matchBetweenAnchors 33 = .ok (.iload 6, 2) := by decide +kernel
theorem dX2_matchBetweenAnchors_35 : decode cX2_matchBetweenAnchors 35 = .ok (.iload 8, 2) := by decide +kernel
theorem dX2_matchBetweenAnchors_37 : decode cX2_matchBetweenAnchors 37 = .ok (.iload 7, 2) := by decide +kernel
theorem dX2_matchBetweenAnchors_39 : decode cX2_matchBetweenAnchors 39 = .ok (.iload 9, 2) := by decide +kernel
theorem dX2_matchBetweenAnchors_41 : decode cX2_matchBetweenAnchors 41 = .ok (.iload 5, 2) := by decide +kernel
theorem dX2_matchBetweenAnchors_43 : decode cX2_matchBetweenAnchors 43 = .ok (.iconst 1, 1) := by decide +kernel
theorem dX2_matchBetweenAnchors_44 : decode cX2_matchBetweenAnchors 44 = .ok (.iadd, 1) := by decide +kernel
theorem dX2_matchBetweenAnchors_45 : decode cX2_matchBetweenAnchors 45 = .ok (.invokevirtual 53, 3) := by decide +kernel
theorem dX2_matchBetweenAnchors_48 : decode cX2_matchBetweenAnchors 48 = .ok (.iload 8, 2) := by decide +kernel
theorem dX2_matchBetweenAnchors_50 : decode cX2_matchBetweenAnchors 50 = .ok (.iconst 1, 1) := by decide +kernel
theorem dX2_matchBetweenAnchors_51 : decode cX2_matchBetweenAnchors 51 = .ok (.iadd, 1) := by decide +kernel
theorem dX2_matchBetweenAnchors_52 : decode cX2_matchBetweenAnchors 52 = .ok (.istore 6, 2) := by decide +kernel
theorem dX2_matchBetweenAnchors_54 : decode cX2_matchBetweenAnchors 54 = .ok (.iload 9, 2) := by decide +kernel
theorem dX2_matchBetweenAnchors_56 : decode cX2_matchBetweenAnchors 56 = .ok (.iconst 1, 1) := by decide +kernel
theorem dX2_matchBetweenAnchors_57 : decode cX2_matchBetweenAnchors 57 = .ok (.iadd, 1) := by decide +kernel
theorem dX2_matchBetweenAnchors_58 : decode cX2_matchBetweenAnchors 58 = .ok (.istore 7, 2) := by decide +kernel
theorem dX2_matchBetweenAnchors_60 : decode cX2_matchBetweenAnchors 60 = .ok (.iinc 8 1, 3) := by decide +kernel
theorem dX2_matchBetweenAnchors_63 : decode cX2_matchBetweenAnchors 63 = .ok (.goto (-54), 3) := by decide +kernel
theorem dX2_matchBetweenAnchors_66 : decode cX2_matchBetweenAnchors 66 = .ok (.aload_n 0, 1) := by decide +kernel
theorem dX2_matchBetweenAnchors_67 : decode cX2_matchBetweenAnchors 67 = .ok (.iload 6, 2) := by decide +kernel
theorem dX2_matchBetweenAnchors_69 : decode cX2_matchBetweenAnchors 69 = .ok (.iload_n 2, 1) := by decide +kernel
theorem dX2_matchBetweenAnchors_70 : decode cX2_matchBetweenAnchors 70 = .ok (.iload 7, 2) := by decide +kernel
theorem dX2_matchBetweenAnchors_72 : decode cX2_matchBetweenAnchors 72 = .ok (.iload 4, 2) := by decide +kernel
theorem dX2_matchBetweenAnchors_74 : decode cX2_matchBetweenAnchors 74 = .ok (.iload 5, 2) := by decide +kernel
theorem dX2_matchBetweenAnchors_76 : decode cX2_matchBetweenAnchors 76 = .ok (.iconst 1, 1) := by decide +kernel
theorem dX2_matchBetweenAnchors_77 : decode cX2_matchBetweenAnchors 77 = .ok (.iadd, 1) := by decide +kernel
theorem dX2_matchBetweenAnchors_78 : decode cX2_matchBetweenAnchors 78 = .ok (.invokevirtual 53, 3) := by decide +kernel
theorem dX2_matchBetweenAnchors_81 : decode cX2_matchBetweenAnchors 81 = .ok (.return_, 1) := by decide +kernel
theorem dX2_keepMost_0 : decode cX2_keepMost 0 = .ok (.aload_n 0, 1) := by decide +kernel
theorem dX2_keepMost_1 : decode cX2_keepMost 1 = .ok (.getfield 26, 3) := by decide +kernel
theorem dX2_keepMost_4 : decode cX2_keepMost 4 = .ok (.aload_n 0, 1) := by decide +kernel
theorem dX2_keepMost_5 : decode cX2_keepMost 5 = .ok (.getfield 12, 3) := by decide +kernel
theorem dX2_keepMost_8 : decode cX2_keepMost 8 = .ok (.getfield 67, 3) := by decide +kernel
theorem dX2_keepMost_11 : decode cX2_keepMost 11 = .ok (.iconst 0, 1) := by decide +kernel
theorem dX2_keepMost_12 : decode cX2_keepMost 12 = .ok (.aaload, 1) := by decide +kernel
theorem dX2_keepMost_13 : decode cX2_keepMost 13 = .ok (.iload_n 1, 1) := by decide +kernel
theorem dX2_keepMost_14 : decode cX2_keepMost 14 = .ok (.iload_n 2, 1) := by decide +kernel
theorem dX2_keepMost_15 : decode cX2_keepMost 15 = .ok (.aload_n 0, 1) := by decide +kernel
theorem dX2_keepMost_16 : decode cX2_keepMost 16 = .ok (.getfield 12, 3) := by decide +kernel
theorem dX2_keepMost_19 : decode cX2_keepMost 19 = .ok (.getfield 67, 3) := by decide +kernel
theorem dX2_keepMost_22 : decode cX2_keepMost 22 = .ok (.iconst 1, 1) := by decide +kernel
theorem dX2_keepMost_23 : decode cX2_keepMost 23 = .ok (.aaload, 1) := by decide +kernel
theorem dX2_keepMost_24 : decode cX2_keepMost 24 = .ok (.iload_n 3, 1) := by decide +kernel
theorem dX2_keepMost_25 : decode cX2_keepMost 25 = .ok (.iload 4, 2) := by decide +kernel
theorem dX2_keepMost_27 : decode cX2_keepMost 27 = .ok (.invokevirtual 70, 3) := by decide +kernel
theorem dX2_keepMost_30 : decode cX2_keepMost 30 = .ok (.pop, 1) := by decide +kernel
theorem dX2_keepMost_31 : decode cX2_keepMost 31 = .ok (.iload_n 1, 1) := by decide +kernel
theorem dX2_keepMost_32 : decode cX2_keepMost 32 = .ok (.istore 5, 2) := by decide +kernel
theorem dX2_keepMost_34 : decode cX2_keepMost 34 = .ok (.iload_n 3, 1) := by decide +kernel
theorem dX2_keepMost_35 : decode cX2_keepMost 35 = .ok (.istore 6, 2) := by decide +kernel
theorem dX2_keepMost_37 : decode cX2_keepMost 37 = .ok (.iload 5, 2) := by decide +kernel
theorem dX2_keepMost_39 : decode cX2_keepMost 39 = .ok (.iload_n 2, 1) := by decide +kernel
theorem dX2_keepMost_40 : decode cX2_keepMost 40 = .ok (.if_icmp .ge 83, 3) := by decide +kernel
theorem dX2_keepMost_43 : decode cX2_keepMost 43 = .ok (.iload 6, 2) := by decide +kernel
theorem dX2_keepMost_45 : decode cX2_keepMost 45 = .ok (.iload 4, 2) := by decide +kernel
theorem dX2_keepMost_47 : decode cX2_keepMost 47 = .ok (.if_icmp .ge 76, 3) := by decide +kernel
theorem dX2_keepMost_50 : decode cX2_keepMost 50 = .ok (.aload_n 0, 1) := by decide +kernel
theorem dX2_keepMost_51 : decode cX2_keepMost 51 = .ok (.iload 5, 2) := by decide +kernel
theorem dX2_keepMost_53 : decode cX2_keepMost 53 = .ok (.iload 6, 2) := by decide +kernel
theorem dX2_keepMost_55 : decode cX2_keepMost 55 = .ok (.invokevirtual 74, 3) := by decide +kernel
theorem dX2_keepMost_58 : decode cX2_keepMost 58 = .ok (.ifCond .eq 20, 3) := by decide +kernel
theorem dX2_keepMost_61 : decode cX2_keepMost 61 = .ok (.aload_n 0, 1) := by decide +kernel
theorem dX2_keepMost_62 : decode cX2_keepMost 62 = .ok (.iload 5, 2) := by decide +kernel
theorem dX2_keepMost_64 : decode cX2_keepMost 64 = .ok (.iload 6, 2) := by decide +kernel
theorem dX2_keepMost_66 : decode cX2_keepMost 66 = .ok (.invokevirtual 78, 3) := by decide +kernel
theorem dX2_keepMost_69 : decode cX2_keepMost 69 = .ok (.iinc 5 1, 3) := by decide +kernel
theorem dX2_keepMost_72 : decode cX2_keepMost 72 = .ok (.iinc 6 1, 3) := by decide +kernel
theorem dX2_keepMost_75 : decode cX2_keepMost 75 = .ok (.goto (-38), 3) := by decide +kernel
theorem dX2_keepMost_78 : decode cX2_keepMost 78 = .ok (.aload_n 0, 1) := by decide +kernel
theorem dX2_keepMost_79 : decode cX2_keepMost 79 = .ok (.getfield 26, 3) := by decide +kernel
theorem dX2_keepMost_82 : decode cX2_keepMost 82 = .ok (.getfield 108, 3) := by decide +kernel
theorem dX2_keepMost_85 : decode cX2_keepMost 85 = .ok (.iload 5, 2) := by decide +kernel
theorem dX2_keepMost_87 : decode cX2_keepMost 87 = .ok (.iconst 1, 1) := by decide +kernel
theorem dX2_keepMost_88 : decode cX2_keepMost 88 = .ok (.iadd, 1) := by decide +kernel
theorem dX2_keepMost_89 : decode cX2_keepMost 89 = .ok (.aaload, 1) := by decide +kernel
theorem dX2_keepMost_90 : decode cX2_keepMost 90 = .ok (.iload 6, 2) := by decide +kernel
theorem dX2_keepMost_92 : decode cX2_keepMost 92 = .ok (.iaload, 1) := by decide +kernel
theorem dX2_keepMost_93 : decode cX2_keepMost 93 = .ok (.aload_n 0, 1) := by decide +kernel
theorem dX2_keepMost_94 : decode cX2_keepMost 94 = .ok (.getfield 26, 3) := by decide +kernel
theorem dX2_keepMost_97 : decode cX2_keepMost 97 = .ok (.getfield 108, 3) := by decide +kernel
theorem dX2_keepMost_100 : decode cX2_keepMost 100 = .ok (.iload 5, 2) := by decide +kernel
theorem dX2_keepMost_102 : decode cX2_keepMost 102 = .ok (.aaload, 1) := by decide +kernel
theorem dX2_keepMost_103 : decode cX2_keepMost 103 = .ok (.iload 6, 2) := by decide +kernel
theorem dX2_keepMost_105 : decode cX2_keepMost 105 = .ok (.iconst 1, 1) := by decide +kernel
theorem dX2_keepMost_106 : decode cX2_keepMost 106 = .ok (.iadd, 1) := by decide +kernel
theorem dX2_keepMost_107 : decode cX2_keepMost 107 = .ok (.iaload, 1) := by decide +kernel
theorem dX2_keepMost_108 : decode cX2_keepMost 108 = .ok (.if_icmp .lt 9, 3) := by decide +kernel
theorem dX2_keepMost_111 : decode cX2_keepMost 111 = .ok (.iinc 5 1, 3) := by decide +kernel
theorem dX2_keepMost_114 : decode cX2_keepMost 114 = .ok (.goto (-77), 3) := by decide +kernel
theorem dX2_keepMost_117 : decode cX2_keepMost 117 = .ok (.iinc 6 1, 3) := by decide +kernel
theorem dX2_keepMost_120 : decode cX2_keepMost 120 = .ok (.goto (-83), 3) := by decide +kernel
theorem dX2_keepMost_123 : decode cX2_keepMost 123 = .ok (.return_, 1) := by decide +kernel
theorem dX2_slideGaps_0 : decode cX2_slideGaps 0 = .ok (.aload_n 0, 1) := by decide +kernel
theorem dX2_slideGaps_1 : decode cX2_slideGaps 1 = .ok (.getfield 37, 3) := by decide +kernel
theorem dX2_slideGaps_4 : decode cX2_slideGaps 4 = .ok (.iconst 0, 1) := by decide +kernel
theorem dX2_slideGaps_5 : decode cX2_slideGaps 5 = .ok (.aload_n 0, 1) := by decide +kernel
theorem dX2_slideGaps_6 : decode cX2_slideGaps 6 = .ok (.getfield 12, 3) := by decide +kernel
theorem dX2_slideGaps_9 : decode cX2_slideGaps 9 = .ok (.getfield 50, 3) := by decide +kernel
theorem dX2_slideGaps_12 : decode cX2_slideGaps 12 = .ok (.iconst 0, 1) := by decide +kernel
theorem dX2_slideGaps_13 : decode cX2_slideGaps 13 = .ok (.iaload, 1) := by decide +kernel
theorem dX2_slideGaps_14 : decode cX2_slideGaps 14 = .ok (.iconst 1, 1) := by decide +kernel
theorem dX2_slideGaps_15 : decode cX2_slideGaps 15 = .ok (.iadd, 1) := by decide +kernel
theorem dX2_slideGaps_16 : decode cX2_slideGaps 16 = .ok (.iastore, 1) := by decide +kernel
theorem dX2_slideGaps_17 : decode cX2_slideGaps 17 = .ok (.aload_n 0, 1) := by decide +kernel
theorem dX2_slideGaps_18 : decode cX2_slideGaps 18 = .ok (.getfield 37, 3) := by decide +kernel
theorem dX2_slideGaps_21 : decode cX2_slideGaps 21 = .ok (.iconst 1, 1) := by decide +kernel
theorem dX2_slideGaps_22 : decode cX2_slideGaps 22 = .ok (.aload_n 0, 1) := by decide +kernel
theorem dX2_slideGaps_23 : decode cX2_slideGaps 23 = .ok (.getfield 12, 3) := by decide +kernel
theorem dX2_slideGaps_26 : decode cX2_slideGaps 26 = .ok (.getfield 50, 3) := by decide +kernel
theorem dX2_slideGaps_29 : decode cX2_slideGaps 29 = .ok (.iconst 1, 1) := by decide +kernel
theorem dX2_slideGaps_30 : decode cX2_slideGaps 30 = .ok (.iaload, 1) := by decide +kernel
theorem dX2_slideGaps_31 : decode cX2_slideGaps 31 = .ok (.iconst 1, 1) := by decide +kernel
theorem dX2_slideGaps_32 : decode cX2_slideGaps 32 = .ok (.iadd, 1) := by decide +kernel
theorem dX2_slideGaps_33 : decode cX2_slideGaps 33 = .ok (.iastore, 1) := by decide +kernel
theorem dX2_slideGaps_34 : decode cX2_slideGaps 34 = .ok (.iconst 0, 1) := by decide +kernel
theorem dX2_slideGaps_35 : decode cX2_slideGaps 35 = .ok (.istore_n 1, 1) := by decide +kernel
theorem dX2_slideGaps_36 : decode cX2_slideGaps 36 = .ok (.iload_n 1, 1) := by decide +kernel
theorem dX2_slideGaps_37 : decode cX2_slideGaps 37 = .ok (.bipush 8, 2) := by decide +kernel
theorem dX2_slideGaps_39 : decode cX2_slideGaps 39 = .ok (.if_icmp .gt 78, 3) := by decide +kernel
theorem dX2_slideGaps_42 : decode cX2_slideGaps 42 = .ok (.aload_n 0, 1) := by decide +kernel
theorem dX2_slideGaps_43 : decode cX2_slideGaps 43 = .ok (.getfield 37, 3) := by decide +kernel
theorem dX2_slideGaps_46 : decode cX2_slideGaps 46 = .ok (.iconst 0, 1) := by decide +kernel
theorem dX2_slideGaps_47 : decode cX2_slideGaps 47 = .ok (.iaload, 1) := by decide +kernel
theorem dX2_slideGaps_48 : decode cX2_slideGaps 48 = .ok (.ifCond .le 69, 3) := by decide +kernel
theorem dX2_slideGaps_51 : decode cX2_slideGaps 51 = .ok (.aload_n 0, 1) := by decide +kernel
theorem dX2_slideGaps_52 : decode cX2_slideGaps 52 = .ok (.getfield 37, 3) := by decide +kernel
theorem dX2_slideGaps_55 : decode cX2_slideGaps 55 = .ok (.iconst 1, 1) := by decide +kernel
theorem dX2_slideGaps_56 : decode cX2_slideGaps 56 = .ok (.iaload, 1) := by decide +kernel
theorem dX2_slideGaps_57 : decode cX2_slideGaps 57 = .ok (.ifCond .le 60, 3) := by decide +kernel
theorem dX2_slideGaps_60 : decode cX2_slideGaps 60 = .ok (.iconst 0, 1) := by decide +kernel
theorem dX2_slideGaps_61 : decode cX2_slideGaps 61 = .ok (.istore_n 2, 1) := by decide +kernel
theorem dX2_slideGaps_62 : decode cX2_slideGaps 62 = .ok (.iload_n 2, 1) := by decide +kernel
theorem dX2_slideGaps_63 : decode cX2_slideGaps 63 = .ok (.iconst 2, 1) := by decide +kernel
theorem dX2_slideGaps_64 : decode cX2_slideGaps 64 = .ok (.if_icmp .ge 35, 3) := by decide +kernel
theorem dX2_slideGaps_67 : decode cX2_slideGaps 67 = .ok (.aload_n 0, 1) := by decide +kernel
theorem dX2_slideGaps_68 : decode cX2_slideGaps 68 = .ok (.getfield 40, 3) := by decide +kernel
theorem dX2_slideGaps_71 : decode cX2_slideGaps 71 = .ok (.iload_n 2, 1) := by decide +kernel
theorem dX2_slideGaps_72 : decode cX2_slideGaps 72 = .ok (.aload_n 0, 1) := by decide +kernel
theorem dX2_slideGaps_73 : decode cX2_slideGaps 73 = .ok (.getfield 37, 3) := by decide +kernel
theorem dX2_slideGaps_76 : decode cX2_slideGaps 76 = .ok (.iload_n 2, 1) := by decide +kernel
theorem dX2_slideGaps_77 : decode cX2_slideGaps 77 = .ok (.iaload, 1) := by decide +kernel
theorem dX2_slideGaps_78 : decode cX2_slideGaps 78 = .ok (.iconst 1, 1) := by decide +kernel
theorem dX2_slideGaps_79 : decode cX2_slideGaps 79 = .ok (.isub, 1) := by decide +kernel
theorem dX2_slideGaps_80 : decode cX2_slideGaps 80 = .ok (.iastore, 1) := by decide +kernel
theorem dX2_slideGaps_81 : decode cX2_slideGaps 81 = .ok (.aload_n 0, 1) := by decide +kernel
theorem dX2_slideGaps_82 : decode cX2_slideGaps 82 = .ok (.getfield 37, 3) := by decide +kernel
theorem dX2_slideGaps_85 : decode cX2_slideGaps 85 = .ok (.iload_n 2, 1) := by decide +kernel
theorem dX2_slideGaps_86 : decode cX2_slideGaps 86 = .ok (.aload_n 0, 1) := by decide +kernel
theorem dX2_slideGaps_87 : decode cX2_slideGaps 87 = .ok (.getfield 40, 3) := by decide +kernel
theorem dX2_slideGaps_90 : decode cX2_slideGaps 90 = .ok (.iload_n 2, 1) := by decide +kernel
theorem dX2_slideGaps_91 : decode cX2_slideGaps 91 = .ok (.iaload, 1) := by decide +kernel
theorem dX2_slideGaps_92 : decode cX2_slideGaps 92 = .ok (.iastore, 1) := by decide +kernel
theorem dX2_slideGaps_93 : decode cX2_slideGaps 93 = .ok (.iinc 2 1, 3) := by decide +kernel
theorem dX2_slideGaps_96 : decode cX2_slideGaps 96 = .ok (.goto (-34), 3) := by decide +kernel
theorem dX2_slideGaps_99 : decode cX2_slideGaps 99 = .ok (.aload_n 0, 1) := by decide +kernel
theorem dX2_slideGaps_100 : decode cX2_slideGaps 100 = .ok (.invokevirtual 111, 3) := by decide +kernel
theorem dX2_slideGaps_103 : decode cX2_slideGaps 103 = .ok (.aload_n 0, 1) := by decide +kernel
theorem dX2_slideGaps_104 : decode cX2_slideGaps 104 = .ok (.invokevirtual 114, 3) := by decide +kernel
theorem dX2_slideGaps_107 : decode cX2_slideGaps 107 = .ok (.aload_n 0, 1) := by decide +kernel
theorem dX2_slideGaps_108 : decode cX2_slideGaps 108 = .ok (.invokevirtual 111, 3) := by decide +kernel
theorem dX2_slideGaps_111 : decode cX2_slideGaps 111 = .ok (.iinc 1 1, 3) := by decide +kernel
theorem dX2_slideGaps_114 : decode cX2_slideGaps 114 = .ok (.goto (-78), 3) := by decide +kernel
theorem dX2_slideGaps_117 : decode cX2_slideGaps 117 = .ok (.return_, 1) := by decide +kernel
theorem dX2_widenGap_0 : decode cX2_widenGap 0 = .ok (.iconst 0, 1) := by decide +kernel
theorem dX2_widenGap_1 : decode cX2_widenGap 1 = .ok (.istore_n 1, 1) := by decide +kernel
theorem dX2_widenGap_2 : decode cX2_widenGap 2 = .ok (.iload_n 1, 1) := by decide +kernel
theorem dX2_widenGap_3 : decode cX2_widenGap 3 = .ok (.iconst 2, 1) := by decide +kernel
theorem dX2_widenGap_4 : decode cX2_widenGap 4 = .ok (.if_icmp .ge 50, 3) := by decide +kernel
theorem dX2_widenGap_7 : decode cX2_widenGap 7 = .ok (.aload_n 0, 1) := by decide +kernel
theorem dX2_widenGap_8 : decode cX2_widenGap 8 = .ok (.getfield 37, 3) := by decide +kernel
theorem dX2_widenGap_11 : decode cX2_widenGap 11 = .ok (.iload_n 1, 1) := by decide +kernel
theorem dX2_widenGap_12 : decode cX2_widenGap 12 = .ok (.iaload, 1) := by decide +kernel
theorem dX2_widenGap_13 : decode cX2_widenGap 13 = .ok (.ifCond .le 35, 3) := by decide +kernel
theorem dX2_widenGap_16 : decode cX2_widenGap 16 = .ok (.aload_n 0, 1) := by decide +kernel
theorem dX2_widenGap_17 : decode cX2_widenGap 17 = .ok (.getfield 20, 3) := by decide +kernel
theorem dX2_widenGap_20 : decode cX2_widenGap 20 = .ok (.iload_n 1, 1) := by decide +kernel
theorem dX2_widenGap_21 : decode cX2_widenGap 21 = .ok (.aaload, 1) := by decide +kernel
theorem dX2_widenGap_22 : decode cX2_widenGap 22 = .ok (.aload_n 0, 1) := by decide +kernel
theorem dX2_widenGap_23 : decode cX2_widenGap 23 = .ok (.getfield 37, 3) := by decide +kernel
theorem dX2_widenGap_26 : decode cX2_widenGap 26 = .ok (.iload_n 1, 1) := by decide +kernel
theorem dX2_widenGap_27 : decode cX2_widenGap 27 = .ok (.iaload, 1) := by decide +kernel
theorem dX2_widenGap_28 : decode cX2_widenGap 28 = .ok (.iconst 1, 1) := by decide +kernel
theorem dX2_widenGap_29 : decode cX2_widenGap 29 = .ok (.isub, 1) := by decide +kernel
theorem dX2_widenGap_30 : decode cX2_widenGap 30 = .ok (.iaload, 1) := by decide +kernel
theorem dX2_widenGap_31 : decode cX2_widenGap 31 = .ok (.iconst (-1), 1) := by decide +kernel
theorem dX2_widenGap_32 : decode cX2_widenGap 32 = .ok (.if_icmp .ne 16, 3) := by decide +kernel
theorem dX2_widenGap_35 : decode cX2_widenGap 35 = .ok (.aload_n 0, 1) := by decide +kernel
theorem dX2_widenGap_36 : decode cX2_widenGap 36 = .ok (.getfield 37, 3) := by decide +kernel
theorem dX2_widenGap_39 : decode cX2_widenGap 39 = .ok (.iload_n 1, 1) := by decide +kernel
theorem dX2_widenGap_40 : decode cX2_widenGap 40 = .ok (.dup2, 1) := by decide +kernel
theorem dX2_widenGap_41 : decode cX2_widenGap 41 = .ok (.iaload, 1) := by decide +kernel
theorem dX2_widenGap_42 : decode cX2_widenGap 42 = .ok (.iconst 1, 1) := by decide +kernel
theorem dX2_widenGap_43 : decode cX2_widenGap 43 = .ok (.isub, 1) := by decide +kernel
theorem dX2_widenGap_44 : decode cX2_widenGap 44 = .ok (.iastore, 1) := by decide +kernel
theorem dX2_widenGap_45 : decode cX2_widenGap 45 = .ok (.goto (-38), 3) := by decide +kernel
theorem dX2_widenGap_48 : decode cX2_widenGap 48 = .ok (.iinc 1 1, 3) := by decide +kernel
theorem dX2_widenGap_51 : decode cX2_widenGap 51 = .ok (.goto (-49), 3) := by decide +kernel
theorem dX2_widenGap_54 : decode cX2_widenGap 54 = .ok (.return_, 1) := by decide +kernel
theorem dX2_slideGap_0 : decode cX2_slideGap 0 = .ok (.aload_n 0, 1) := by decide +kernel
theorem dX2_slideGap_1 : decode cX2_slideGap 1 = .ok (.getfield 37, 3) := by decide +kernel
theorem dX2_slideGap_4 : decode cX2_slideGap 4 = .ok (.iconst 0, 1) := by decide +kernel
theorem dX2_slideGap_5 : decode cX2_slideGap 5 = .ok (.iaload, 1) := by decide +kernel
theorem dX2_slideGap_6 : decode cX2_slideGap 6 = .ok (.aload_n 0, 1) := by decide +kernel
theorem dX2_slideGap_7 : decode cX2_slideGap 7 = .ok (.getfield 40, 3) := by decide +kernel
theorem dX2_slideGap_10 : decode cX2_slideGap 10 = .ok (.iconst 0, 1) := by decide +kernel
theorem dX2_slideGap_11 : decode cX2_slideGap 11 = .ok (.iaload, 1) := by decide +kernel
theorem dX2_slideGap_12 : decode cX2_slideGap 12 = .ok (.if_icmp .ge 7, 3) := by decide +kernel
theorem dX2_slideGap_15 : decode cX2_slideGap 15 = .ok (.iconst 1, 1) := by decide +kernel
theorem dX2_slideGap_16 : decode cX2_slideGap 16 = .ok (.goto 4, 3) := by decide +kernel
theorem dX2_slideGap_19 : decode cX2_slideGap 19 = .ok (.iconst 0, 1) := by decide +kernel
theorem dX2_slideGap_20 : decode cX2_slideGap 20 = .ok (.istore_n 1, 1) := by decide +kernel
theorem dX2_slideGap_21 : decode cX2_slideGap 21 = .ok (.aload_n 0, 1) := by decide +kernel
theorem dX2_slideGap_22 : decode cX2_slideGap 22 = .ok (.getfield 37, 3) := by decide +kernel
theorem dX2_slideGap_25 : decode cX2_slideGap 25 = .ok (.iconst 1, 1) := by decide +kernel
theorem dX2_slideGap_26 : decode cX2_slideGap 26 = .ok (.iaload, 1) := by decide +kernel
theorem dX2_slideGap_27 : decode cX2_slideGap 27 = .ok (.aload_n 0, 1) := by decide +kernel
theorem dX2_slideGap_28 : decode cX2_slideGap 28 = .ok (.getfield 40, 3) := by decide +kernel
theorem dX2_slideGap_31 : decode cX2_slideGap 31 = .ok (.iconst 1, 1) := by decide +kernel
theorem dX2_slideGap_32 : decode cX2_slideGap 32 = .ok (.iaload, 1) := by decide +kernel
theorem dX2_slideGap_33 : decode cX2_slideGap 33 = .ok (.if_icmp .ge 7, 3) := by decide +kernel
theorem dX2_slideGap_36 : decode cX2_slideGap 36 = .ok (.iconst 1, 1) := by decide +kernel
theorem dX2_slideGap_37 : decode cX2_slideGap 37 = .ok (.goto 4, 3) := by decide +kernel
theorem dX2_slideGap_40 : decode cX2_slideGap 40 = .ok (.iconst 0, 1) := by decide +kernel
theorem dX2_slideGap_41 : decode cX2_slideGap 41 = .ok (.istore_n 2, 1) := by decide +kernel
theorem dX2_slideGap_42 : decode cX2_slideGap 42 = .ok (.iload_n 1, 1) := by decide +kernel
theorem dX2_slideGap_43 : decode cX2_slideGap 43 = .ok (.iload_n 2, 1) := by decide +kernel
theorem dX2_slideGap_44 : decode cX2_slideGap 44 = .ok (.if_icmp .ne 4, 3) := by decide +kernel
theorem dX2_slideGap_47 : decode cX2_slideGap 47 = .ok (.return_, 1) := by decide +kernel
theorem dX2_slideGap_48 : decode cX2_slideGap 48 = .ok (.iload_n 1, 1) := by decide +kernel
theorem dX2_slideGap_49 : decode cX2_slideGap 49 = .ok (.ifCond .eq 7, 3) := by decide +kernel
theorem dX2_slideGap_52 : decode cX2_slideGap 52 = .ok (.iconst 0, 1) := by decide +kernel
theorem dX2_slideGap_53 : decode cX2_slideGap 53 = .ok (.goto 4, 3) := by decide +kernel
theorem dX2_slideGap_56 : decode cX2_slideGap 56 = .ok (.iconst 1, 1) := by decide +kernel
theorem dX2_slideGap_57 : decode cX2_slideGap 57 = .ok (.istore_n 3, 1) := by decide +kernel
theorem dX2_slideGap_58 : decode cX2_slideGap 58 = .ok (.iconst 0, 1) := by decide +kernel
theorem dX2_slideGap_59 : decode cX2_slideGap 59 = .ok (.istore 4, 2) := by decide +kernel
theorem dX2_slideGap_61 : decode cX2_slideGap 61 = .ok (.iload 4, 2) := by decide +kernel
theorem dX2_slideGap_63 : decode cX2_slideGap 63 = .ok (.bipush 8, 2) := by decide +kernel
theorem dX2_slideGap_65 : decode cX2_slideGap 65 = .ok (.if_icmp .ge 22, 3) := by decide +kernel
theorem dX2_slideGap_68 : decode cX2_slideGap 68 = .ok (.aload_n 0, 1) := by decide +kernel
theorem dX2_slideGap_69 : decode cX2_slideGap 69 = .ok (.iload_n 3, 1) := by decide +kernel
theorem dX2_slideGap_70 : decode cX2_slideGap 70 = .ok (.invokevirtual 117, 3) := by decide +kernel
theorem dX2_slideGap_73 : decode cX2_slideGap 73 = .ok (.ifCond .eq 14, 3) := by decide +kernel
theorem dX2_slideGap_76 : decode cX2_slideGap 76 = .ok (.aload_n 0, 1) := by decide +kernel
theorem dX2_slideGap_77 : decode cX2_slideGap 77 = .ok (.iload_n 3, 1) := by decide +kernel
theorem dX2_slideGap_78 : decode cX2_slideGap 78 = .ok (.invokevirtual 121, 3) := by decide +kernel
theorem dX2_slideGap_81 : decode cX2_slideGap 81 = .ok (.iinc 4 1, 3) := by decide +kernel
theorem dX2_slideGap_84 : decode cX2_slideGap 84 = .ok (.goto (-23), 3) := by decide +kernel
theorem dX2_slideGap_87 : decode cX2_slideGap 87 = .ok (.return_, 1) := by decide +kernel
theorem dX2_maySlide_0 : decode cX2_maySlide 0 = .ok (.aload_n 0, 1) := by decide +kernel
theorem dX2_maySlide_1 : decode cX2_maySlide 1 = .ok (.getfield 37, 3) := by decide +kernel
theorem dX2_maySlide_4 : decode cX2_maySlide 4 = .ok (.iconst 0, 1) := by decide +kernel
theorem dX2_maySlide_5 : decode cX2_maySlide 5 = .ok (.iaload, 1) := by decide +kernel
theorem dX2_maySlide_6 : decode cX2_maySlide 6 = .ok (.iconst 1, 1) := by decide +kernel
theorem dX2_maySlide_7 : decode cX2_maySlide 7 = .ok (.if_icmp .lt 13, 3) := by decide +kernel
theorem dX2_maySlide_10 : decode cX2_maySlide 10 = .ok (.aload_n 0, 1) := by decide +kernel
theorem dX2_maySlide_11 : decode cX2_maySlide 11 = .ok (.getfield 37, 3) := by decide +kernel
theorem dX2_maySlide_14 : decode cX2_maySlide 14 = .ok (.iconst 1, 1) := by decide +kernel
theorem dX2_maySlide_15 : decode cX2_maySlide 15 = .ok (.iaload, 1) := by decide +kernel
theorem dX2_maySlide_16 : decode cX2_maySlide 16 = .ok (.iconst 1, 1) := by decide +kernel
theorem dX2_maySlide_17 : decode cX2_maySlide 17 = .ok (.if_icmp .ge 5, 3) := by decide +kernel
theorem dX2_maySlide_20 : decode cX2_maySlide 20 = .ok (.iconst 0, 1) := by decide +kernel
theorem dX2_maySlide_21 : decode cX2_maySlide 21 = .ok (.ireturn, 1) := by decide +kernel
theorem dX2_maySlide_22 : decode cX2_maySlide 22 = .ok (.aload_n 0, 1) := by decide +kernel
theorem dX2_maySlide_23 : decode cX2_maySlide 23 = .ok (.getfield 20, 3) := by decide +kernel
theorem dX2_maySlide_26 : decode cX2_maySlide 26 = .ok (.iconst 0, 1) := by decide +kernel
theorem dX2_maySlide_27 : decode cX2_maySlide 27 = .ok (.aaload, 1) := by decide +kernel
theorem dX2_maySlide_28 : decode cX2_maySlide 28 = .ok (.aload_n 0, 1) := by decide +kernel
theorem dX2_maySlide_29 : decode cX2_maySlide 29 = .ok (.getfield 37, 3) := by decide +kernel
theorem dX2_maySlide_32 : decode cX2_maySlide 32 = .ok (.iconst 0, 1) := by decide +kernel
theorem dX2_maySlide_33 : decode cX2_maySlide 33 = .ok (.iaload, 1) := by decide +kernel
theorem dX2_maySlide_34 : decode cX2_maySlide 34 = .ok (.iconst 1, 1) := by decide +kernel
theorem dX2_maySlide_35 : decode cX2_maySlide 35 = .ok (.isub, 1) := by decide +kernel
theorem dX2_maySlide_36 : decode cX2_maySlide 36 = .ok (.iaload, 1) := by decide +kernel
theorem dX2_maySlide_37 : decode cX2_maySlide 37 = .ok (.iconst (-1), 1) := by decide +kernel
theorem dX2_maySlide_38 : decode cX2_maySlide 38 = .ok (.if_icmp .eq 22, 3) := by decide +kernel
theorem dX2_maySlide_41 : decode cX2_maySlide 41 = .ok (.aload_n 0, 1) := by decide +kernel
theorem dX2_maySlide_42 : decode cX2_maySlide 42 = .ok (.getfield 20, 3) := by decide +kernel
theorem dX2_maySlide_45 : decode cX2_maySlide 45 = .ok (.iconst 1, 1) := by decide +kernel
theorem dX2_maySlide_46 : decode cX2_maySlide 46 = .ok (.aaload, 1) := by decide +kernel
theorem dX2_maySlide_47 : decode cX2_maySlide 47 = .ok (.aload_n 0, 1) := by decide +kernel
theorem dX2_maySlide_48 : decode cX2_maySlide 48 = .ok (.getfield 37, 3) := by decide +kernel
theorem dX2_maySlide_51 : decode cX2_maySlide 51 = .ok (.iconst 1, 1) := by decide +kernel
theorem dX2_maySlide_52 : decode cX2_maySlide 52 = .ok (.iaload, 1) := by decide +kernel
theorem dX2_maySlide_53 : decode cX2_maySlide 53 = .ok (.iconst 1, 1) := by decide +kernel
theorem dX2_maySlide_54 : decode cX2_maySlide 54 = .ok (.isub, 1) := by decide +kernel
theorem dX2_maySlide_55 : decode cX2_maySlide 55 = .ok (.iaload, 1) := by decide +kernel
theorem dX2_maySlide_56 : decode cX2_maySlide 56 = .ok (.iconst (-1), 1) := by decide +kernel
theorem dX2_maySlide_57 : decode cX2_maySlide 57 = .ok (.if_icmp .ne 5, 3) := by decide +kernel
theorem dX2_maySlide_60 : decode cX2_maySlide 60 = .ok (.iconst 0, 1) := by decide +kernel
theorem dX2_maySlide_61 : decode cX2_maySlide 61 = .ok (.ireturn, 1) := by decide +kernel
theorem dX2_maySlide_62 : decode cX2_maySlide 62 = .ok (.aload_n 0, 1) := by decide +kernel
theorem dX2_maySlide_63 : decode cX2_maySlide 63 = .ok (.getfield 12, 3) := by decide +kernel
theorem dX2_maySlide_66 : decode cX2_maySlide 66 = .ok (.getfield 67, 3) := by decide +kernel
theorem dX2_maySlide_69 : decode cX2_maySlide 69 = .ok (.iload_n 1, 1) := by decide +kernel
theorem dX2_maySlide_70 : decode cX2_maySlide 70 = .ok (.aaload, 1) := by decide +kernel
theorem dX2_maySlide_71 : decode cX2_maySlide 71 = .ok (.astore_n 2, 1) := by decide +kernel
theorem dX2_maySlide_72 : decode cX2_maySlide 72 = .ok (.aload_n 2, 1) := by decide +kernel
theorem dX2_maySlide_73 : decode cX2_maySlide 73 = .ok (.aload_n 0, 1) := by decide +kernel
theorem dX2_maySlide_74 : decode cX2_maySlide 74 = .ok (.getfield 37, 3) := by decide +kernel
theorem dX2_maySlide_77 : decode cX2_maySlide 77 = .ok (.iload_n 1, 1) := by decide +kernel
theorem dX2_maySlide_78 : decode cX2_maySlide 78 = .ok (.iaload, 1) := by decide +kernel
theorem dX2_maySlide_79 : decode cX2_maySlide 79 = .ok (.iconst 1, 1) := by decide +kernel
theorem dX2_maySlide_80 : decode cX2_maySlide 80 = .ok (.isub, 1) := by decide +kernel
theorem dX2_maySlide_81 : decode cX2_maySlide 81 = .ok (.iaload, 1) := by decide +kernel
theorem dX2_maySlide_82 : decode cX2_maySlide 82 = .ok (.aload_n 2, 1) := by decide +kernel
theorem dX2_maySlide_83 : decode cX2_maySlide 83 = .ok (.aload_n 0, 1) := by decide +kernel
theorem dX2_maySlide_84 : decode cX2_maySlide 84 = .ok (.getfield 40, 3) := by decide +kernel
theorem dX2_maySlide_87 : decode cX2_maySlide 87 = .ok (.iload_n 1, 1) := by decide +kernel
theorem dX2_maySlide_88 : decode cX2_maySlide 88 = .ok (.iaload, 1) := by decide +kernel
theorem dX2_maySlide_89 : decode cX2_maySlide 89 = .ok (.iconst 1, 1) := by decide +kernel
theorem dX2_maySlide_90 : decode cX2_maySlide 90 = .ok (.isub, 1) := by decide +kernel
theorem dX2_maySlide_91 : decode cX2_maySlide 91 = .ok (.iaload, 1) := by decide +kernel
theorem dX2_maySlide_92 : decode cX2_maySlide 92 = .ok (.if_icmp .ne 7, 3) := by decide +kernel
theorem dX2_maySlide_95 : decode cX2_maySlide 95 = .ok (.iconst 1, 1) := by decide +kernel
theorem dX2_maySlide_96 : decode cX2_maySlide 96 = .ok (.goto 4, 3) := by decide +kernel
theorem dX2_maySlide_99 : decode cX2_maySlide 99 = .ok (.iconst 0, 1) := by decide +kernel
theorem dX2_maySlide_100 : decode cX2_maySlide 100 = .ok (.ireturn, 1) := by decide +kernel
theorem dX2_slideOnce_0 : decode cX2_slideOnce 0 = .ok (.iconst 0, 1) := by decide +kernel
theorem dX2_slideOnce_1 : decode cX2_slideOnce 1 = .ok (.istore_n 2, 1) := by decide +kernel
theorem dX2_slideOnce_2 : decode cX2_slideOnce 2 = .ok (.iload_n 2, 1) := by decide +kernel
theorem dX2_slideOnce_3 : decode cX2_slideOnce 3 = .ok (.iconst 2, 1) := by decide +kernel
theorem dX2_slideOnce_4 : decode cX2_slideOnce 4 = .ok (.if_icmp .ge 29, 3) := by decide +kernel
theorem dX2_slideOnce_7 : decode cX2_slideOnce 7 = .ok (.aload_n 0, 1) := by decide +kernel
theorem dX2_slideOnce_8 : decode cX2_slideOnce 8 = .ok (.getfield 37, 3) := by decide +kernel
theorem dX2_slideOnce_11 : decode cX2_slideOnce 11 = .ok (.iload_n 2, 1) := by decide +kernel
theorem dX2_slideOnce_12 : decode cX2_slideOnce 12 = .ok (.dup2, 1) := by decide +kernel
theorem dX2_slideOnce_13 : decode cX2_slideOnce 13 = .ok (.iaload, 1) := by decide +kernel
theorem dX2_slideOnce_14 : decode cX2_slideOnce 14 = .ok (.iconst 1, 1) := by decide +kernel
theorem dX2_slideOnce_15 : decode cX2_slideOnce 15 = .ok (.isub, 1) := by decide +kernel
theorem dX2_slideOnce_16 : decode cX2_slideOnce 16 = .ok (.iastore, 1) := by decide +kernel
theorem dX2_slideOnce_17 : decode cX2_slideOnce 17 = .ok (.aload_n 0, 1) := by decide +kernel
theorem dX2_slideOnce_18 : decode cX2_slideOnce 18 = .ok (.getfield 40, 3) := by decide +kernel
theorem dX2_slideOnce_21 : decode cX2_slideOnce 21 = .ok (.iload_n 2, 1) := by decide +kernel
theorem dX2_slideOnce_22 : decode cX2_slideOnce 22 = .ok (.dup2, 1) := by decide +kernel
theorem dX2_slideOnce_23 : decode cX2_slideOnce 23 = .ok (.iaload, 1) := by decide +kernel
theorem dX2_slideOnce_24 : decode cX2_slideOnce 24 = .ok (.iconst 1, 1) := by decide +kernel
theorem dX2_slideOnce_25 : decode cX2_slideOnce 25 = .ok (.isub, 1) := by decide +kernel
theorem dX2_slideOnce_26 : decode cX2_slideOnce 26 = .ok (.iastore, 1) := by decide +kernel
theorem dX2_slideOnce_27 : decode cX2_slideOnce 27 = .ok (.iinc 2 1, 3) := by decide +kernel
theorem dX2_slideOnce_30 : decode cX2_slideOnce 30 = .ok (.goto (-28), 3) := by decide +kernel
theorem dX2_slideOnce_33 : decode cX2_slideOnce 33 = .ok (.iconst 1, 1) := by decide +kernel
theorem dX2_slideOnce_34 : decode cX2_slideOnce 34 = .ok (.iload_n 1, 1) := by decide +kernel
theorem dX2_slideOnce_35 : decode cX2_slideOnce 35 = .ok (.isub, 1) := by decide +kernel
theorem dX2_slideOnce_36 : decode cX2_slideOnce 36 = .ok (.istore_n 2, 1) := by decide +kernel
theorem dX2_slideOnce_37 : decode cX2_slideOnce 37 = .ok (.aload_n 0, 1) := by decide +kernel
theorem dX2_slideOnce_38 : decode cX2_slideOnce 38 = .ok (.getfield 20, 3) := by decide +kernel
theorem dX2_slideOnce_41 : decode cX2_slideOnce 41 = .ok (.iload_n 1, 1) := by decide +kernel
theorem dX2_slideOnce_42 : decode cX2_slideOnce 42 = .ok (.aaload, 1) := by decide +kernel
theorem dX2_slideOnce_43 : decode cX2_slideOnce 43 = .ok (.aload_n 0, 1) := by decide +kernel
theorem dX2_slideOnce_44 : decode cX2_slideOnce 44 = .ok (.getfield 37, 3) := by decide +kernel
theorem dX2_slideOnce_47 : decode cX2_slideOnce 47 = .ok (.iload_n 1, 1) := by decide +kernel
theorem dX2_slideOnce_48 : decode cX2_slideOnce 48 = .ok (.iaload, 1) := by decide +kernel
theorem dX2_slideOnce_49 : decode cX2_slideOnce 49 = .ok (.iconst (-1), 1) := by decide +kernel
theorem dX2_slideOnce_50 : decode cX2_slideOnce 50 = .ok (.iastore, 1) := by decide +kernel
theorem dX2_slideOnce_51 : decode cX2_slideOnce 51 = .ok (.aload_n 0, 1) := by decide +kernel
theorem dX2_slideOnce_52 : decode cX2_slideOnce 52 = .ok (.getfield 20, 3) := by decide +kernel
theorem dX2_slideOnce_55 : decode cX2_slideOnce 55 = .ok (.iload_n 1, 1) := by decide +kernel
theorem dX2_slideOnce_56 : decode cX2_slideOnce 56 = .ok (.aaload, 1) := by decide +kernel
theorem dX2_slideOnce_57 : decode cX2_slideOnce 57 = .ok (.aload_n 0, 1) := by decide +kernel
theorem dX2_slideOnce_58 : decode cX2_slideOnce 58 = .ok (.getfield 40, 3) := by decide +kernel
theorem dX2_slideOnce_61 : decode cX2_slideOnce 61 = .ok (.iload_n 1, 1) := by decide +kernel
theorem dX2_slideOnce_62 : decode cX2_slideOnce 62 = .ok (.iaload, 1) := by decide +kernel
theorem dX2_slideOnce_63 : decode cX2_slideOnce 63 = .ok (.aload_n 0, 1) := by decide +kernel
theorem dX2_slideOnce_64 : decode cX2_slideOnce 64 = .ok (.getfield 40, 3) := by decide +kernel
theorem dX2_slideOnce_67 : decode cX2_slideOnce 67 = .ok (.iload_n 2, 1) := by decide +kernel
theorem dX2_slideOnce_68 : decode cX2_slideOnce 68 = .ok (.iaload, 1) := by decide +kernel
theorem dX2_slideOnce_69 : decode cX2_slideOnce 69 = .ok (.iastore, 1) := by decide +kernel
theorem dX2_slideOnce_70 : decode cX2_slideOnce 70 = .ok (.aload_n 0, 1) := by decide +kernel
theorem dX2_slideOnce_71 : decode cX2_slideOnce 71 = .ok (.getfield 20, 3) := by decide +kernel
theorem dX2_slideOnce_74 : decode cX2_slideOnce 74 = .ok (.iload_n 2, 1) := by decide +kernel
theorem dX2_slideOnce_75 : decode cX2_slideOnce 75 = .ok (.aaload, 1) := by decide +kernel
theorem dX2_slideOnce_76 : decode cX2_slideOnce 76 = .ok (.aload_n 0, 1) := by decide +kernel
theorem dX2_slideOnce_77 : decode cX2_slideOnce 77 = .ok (.getfield 40, 3) := by decide +kernel
theorem dX2_slideOnce_80 : decode cX2_slideOnce 80 = .ok (.iload_n 2, 1) := by decide +kernel
theorem dX2_slideOnce_81 : decode cX2_slideOnce 81 = .ok (.iaload, 1) := by decide +kernel
theorem dX2_slideOnce_82 : decode cX2_slideOnce 82 = .ok (.aload_n 0, 1) := by decide +kernel
theorem dX2_slideOnce_83 : decode cX2_slideOnce 83 = .ok (.getfield 40, 3) := by decide +kernel
theorem dX2_slideOnce_86 : decode cX2_slideOnce 86 = .ok (.iload_n 1, 1) := by decide +kernel
theorem dX2_slideOnce_87 : decode cX2_slideOnce 87 = .ok (.iaload, 1) := by decide +kernel
theorem dX2_slideOnce_88 : decode cX2_slideOnce 88 = .ok (.iastore, 1) := by decide +kernel
theorem dX2_slideOnce_89 : decode cX2_slideOnce 89 = .ok (.aload_n 0, 1) := by decide +kernel
theorem dX2_slideOnce_90 : decode cX2_slideOnce 90 = .ok (.dup, 1) := by decide +kernel
theorem dX2_slideOnce_91 : decode cX2_slideOnce 91 = .ok (.getfield 47, 3) := by decide +kernel
theorem dX2_slideOnce_94 : decode cX2_slideOnce 94 = .ok (.iconst 1, 1) := by decide +kernel
theorem dX2_slideOnce_95 : decode cX2_slideOnce 95 = .ok (.iadd, 1) := by decide +kernel
theorem dX2_slideOnce_96 : decode cX2_slideOnce 96 = .ok (.putfield 47, 3) := by decide +kernel
theorem dX2_slideOnce_99 : decode cX2_slideOnce 99 = .ok (.return_, 1) := by decide +kernel
theorem dX3_init_0 : decode cX3_init 0 = .ok (.aload_n 0, 1) := by decide +kernel
theorem dX3_init_1 : decode cX3_init 1 = .ok (.invokespecial 3, 3) := by decide +kernel
theorem dX3_init_4 : decode cX3_init 4 = .ok (.aload_n 0, 1) := by decide +kernel
theorem dX3_init_5 : decode cX3_init 5 = .ok (.bipush 64, 2) := by decide +kernel
theorem dX3_init_7 : decode cX3_init 7 = .ok (.newarray .int, 2) := by decide +kernel
theorem dX3_init_9 : decode cX3_init 9 = .ok (.putfield 9, 3) := by decide +kernel
theorem dX3_init_12 : decode cX3_init 12 = .ok (.aload_n 0, 1) := by decide +kernel
theorem dX3_init_13 : decode cX3_init 13 = .ok (.new 15, 3) := by decide +kernel
theorem dX3_init_16 : decode cX3_init 16 = .ok (.dup, 1) := by decide +kernel
theorem dX3_init_17 : decode cX3_init 17 = .ok (.invokespecial 17, 3) := by decide +kernel
theorem dX3_init_20 : decode cX3_init 20 = .ok (.putfield 18, 3) := by decide +kernel
theorem dX3_init_23 : decode cX3_init 23 = .ok (.aload_n 0, 1) := by decide +kernel
theorem dX3_init_24 : decode cX3_init 24 = .ok (.iconst 0, 1) := by decide +kernel
theorem dX3_init_25 : decode cX3_init 25 = .ok (.putfield 22, 3) := by decide +kernel
theorem dX3_init_28 : decode cX3_init 28 = .ok (.return_, 1) := by decide +kernel
theorem dX3_append_0 : decode cX3_append 0 = .ok (.aload_n 0, 1) := by decide +kernel
theorem dX3_append_1 : decode cX3_append 1 = .ok (.getfield 22, 3) := by decide +kernel
theorem dX3_append_4 : decode cX3_append 4 = .ok (.bipush 64, 2) := by decide +kernel
theorem dX3_append_6 : decode cX3_append 6 = .ok (.if_icmp .lt 5, 3) := by decide +kernel
theorem dX3_append_9 : decode cX3_append 9 = .ok (.iconst 0, 1) := by decide +kernel
theorem dX3_append_10 : decode cX3_append 10 = .ok (.ireturn, 1) := by decide +kernel
theorem dX3_append_11 : decode cX3_append 11 = .ok (.aload_n 0, 1) := by decide +kernel
theorem dX3_append_12 : decode cX3_append 12 = .ok (.getfield 9, 3) := by decide +kernel
theorem dX3_append_15 : decode cX3_append 15 = .ok (.aload_n 0, 1) := by decide +kernel
theorem dX3_append_16 : decode cX3_append 16 = .ok (.getfield 22, 3) := by decide +kernel
theorem dX3_append_19 : decode cX3_append 19 = .ok (.iload_n 1, 1) := by decide +kernel
theorem dX3_append_20 : decode cX3_append 20 = .ok (.iastore, 1) := by decide +kernel
theorem dX3_append_21 : decode cX3_append 21 = .ok (.aload_n 0, 1) := by decide +kernel
theorem dX3_append_22 : decode cX3_append 22 = .ok (.dup, 1) := by decide +kernel
theorem dX3_append_23 : decode cX3_append 23 = .ok (.getfield 22, 3) := by decide +kernel
theorem dX3_append_26 : decode cX3_append 26 = .ok (.iconst 1, 1) := by decide +kernel
theorem dX3_append_27 : decode cX3_append 27 = .ok (.iadd, 1) := by decide +kernel
theorem dX3_append_28 : decode cX3_append 28 = .ok (.putfield 22, 3) := by decide +kernel
theorem dX3_append_31 : decode cX3_append 31 = .ok (.iconst 1, 1) := by decide +kernel
theorem dX3_append_32 : decode cX3_append 32 = .ok (.ireturn, 1) := by decide +kernel
theorem dX3_firstFault_0 : decode cX3_firstFault 0 = .ok (.aload_n 0, 1) := by decide +kernel
theorem dX3_firstFault_1 : decode cX3_firstFault 1 = .ok (.getfield 18, 3) := by decide +kernel
theorem dX3_firstFault_4 : decode cX3_firstFault 4 = .ok (.invokevirtual 26, 3) := by decide +kernel
theorem dX3_firstFault_7 : decode cX3_firstFault 7 = .ok (.iconst 0, 1) := by decide +kernel
theorem dX3_firstFault_8 : decode cX3_firstFault 8 = .ok (.istore_n 1, 1) := by decide +kernel
theorem dX3_firstFault_9 : decode cX3_firstFault 9 = .ok (.iload_n 1, 1) := by decide +kernel
theorem dX3_firstFault_10 : decode cX3_firstFault 10 = .ok (.aload_n 0, 1) := by decide +kernel
theorem dX3_firstFault_11 : decode cX3_firstFault 11 = .ok (.getfield 22, 3) := by decide +kernel
theorem dX3_firstFault_14 : decode cX3_firstFault 14 = .ok (.if_icmp .ge 27, 3) := by decide +kernel
theorem dX3_firstFault_17 : decode cX3_firstFault 17 = .ok (.aload_n 0, 1) := by decide +kernel
theorem dX3_firstFault_18 : decode cX3_firstFault 18 = .ok (.getfield 18, 3) := by decide +kernel
theorem dX3_firstFault_21 : decode cX3_firstFault 21 = .ok (.aload_n 0, 1) := by decide +kernel
theorem dX3_firstFault_22 : decode cX3_firstFault 22 = .ok (.getfield 9, 3) := by decide +kernel
theorem dX3_firstFault_25 : decode cX3_firstFault 25 = .ok (.iload_n 1, 1) := by decide +kernel
theorem dX3_firstFault_26 : decode cX3_firstFault 26 = .ok (.iaload, 1) := by decide +kernel
theorem dX3_firstFault_27 : decode cX3_firstFault 27 = .ok (.invokevirtual 29, 3) := by decide +kernel
theorem dX3_firstFault_30 : decode cX3_firstFault 30 = .ok (.ifCond .ne 5, 3) := by decide +kernel
theorem dX3_firstFault_33 : decode cX3_firstFault 33 = .ok (.iload_n 1, 1) := by decide +kernel
theorem dX3_firstFault_34 : decode cX3_firstFault 34 = .ok (.ireturn, 1) := by decide +kernel
theorem dX3_firstFault_35 : decode cX3_firstFault 35 = .ok (.iinc 1 1, 3) := by decide +kernel
theorem dX3_firstFault_38 : decode cX3_firstFault 38 = .ok (.goto (-29), 3) := by decide +kernel
theorem dX3_firstFault_41 : decode cX3_firstFault 41 = .ok (.aload_n 0, 1) := by decide +kernel
theorem dX3_firstFault_42 : decode cX3_firstFault 42 = .ok (.getfield 22, 3) := by decide +kernel
theorem dX3_firstFault_45 : decode cX3_firstFault 45 = .ok (.ireturn, 1) := by decide +kernel
theorem dX3_isText_0 : decode cX3_isText 0 = .ok (.aload_n 0, 1) := by decide +kernel
theorem dX3_isText_1 : decode cX3_isText 1 = .ok (.invokevirtual 33, 3) := by decide +kernel
theorem dX3_isText_4 : decode cX3_isText 4 = .ok (.aload_n 0, 1) := by decide +kernel
theorem dX3_isText_5 : decode cX3_isText 5 = .ok (.getfield 22, 3) := by decide +kernel
theorem dX3_isText_8 : decode cX3_isText 8 = .ok (.if_icmp .ne 17, 3) := by decide +kernel
theorem dX3_isText_11 : decode cX3_isText 11 = .ok (.aload_n 0, 1) := by decide +kernel
theorem dX3_isText_12 : decode cX3_isText 12 = .ok (.getfield 18, 3) := by decide +kernel
theorem dX3_isText_15 : decode cX3_isText 15 = .ok (.invokevirtual 37, 3) := by decide +kernel
theorem dX3_isText_18 : decode cX3_isText 18 = .ok (.ifCond .eq 7, 3) := by decide +kernel
theorem dX3_isText_21 : decode cX3_isText 21 = .ok (.iconst 1, 1) := by decide +kernel
theorem dX3_isText_22 : decode cX3_isText 22 = .ok (.goto 4, 3) := by decide +kernel
theorem dX3_isText_25 : decode cX3_isText 25 = .ok (.iconst 0, 1) := by decide +kernel
theorem dX3_isText_26 : decode cX3_isText 26 = .ok (.ireturn, 1) := by decide +kernel
theorem dX3_readInto_0 : decode cX3_readInto 0 = .ok (.aload_n 1, 1) := by decide +kernel
theorem dX3_readInto_1 : decode cX3_readInto 1 = .ok (.invokevirtual 41, 3) := by decide +kernel
theorem dX3_readInto_4 : decode cX3_readInto 4 = .ok (.iconst 0, 1) := by decide +kernel
theorem dX3_readInto_5 : decode cX3_readInto 5 = .ok (.istore_n 2, 1) := by decide +kernel
theorem dX3_readInto_6 : decode cX3_readInto 6 = .ok (.iconst 0, 1) := by decide +kernel
theorem dX3_readInto_7 : decode cX3_readInto 7 = .ok (.istore_n 3, 1) := by decide +kernel
theorem dX3_readInto_8 : decode cX3_readInto 8 = .ok (.iconst 0, 1) := by decide +kernel
theorem dX3_readInto_9 : decode cX3_readInto 9 = .ok (.istore 4, 2) := by decide +kernel
theorem dX3_readInto_11 : decode cX3_readInto 11 = .ok (.iload 4, 2) := by decide +kernel
theorem dX3_readInto_13 : decode cX3_readInto 13 = .ok (.aload_n 0, 1) := by decide +kernel
theorem dX3_readInto_14 : decode cX3_readInto 14 = .ok (.getfield 22, 3) := by decide +kernel
theorem dX3_readInto_17 : decode cX3_readInto 17 = .ok (.if_icmp .ge 64, 3) := by decide +kernel
theorem dX3_readInto_20 : decode cX3_readInto 20 = .ok (.aload_n 0, 1) := by decide +kernel
theorem dX3_readInto_21 : decode cX3_readInto 21 = .ok (.getfield 9, 3) := by decide +kernel
theorem dX3_readInto_24 : decode cX3_readInto 24 = .ok (.iload 4, 2) := by decide +kernel
theorem dX3_readInto_26 : decode cX3_readInto 26 = .ok (.iaload, 1) := by decide +kernel
theorem dX3_readInto_27 : decode cX3_readInto 27 = .ok (.invokestatic 46, 3) := by decide +kernel
theorem dX3_readInto_30 : decode cX3_readInto 30 = .ok (.ifCond .eq 19, 3) := by decide +kernel
theorem dX3_readInto_33 : decode cX3_readInto 33 = .ok (.iload_n 3, 1) := by decide +kernel
theorem dX3_readInto_34 : decode cX3_readInto 34 = .ok (.bipush 7, 2) := by decide +kernel
theorem dX3_readInto_36 : decode cX3_readInto 36 = .ok (.ishl, 1) := by decide +kernel
theorem dX3_readInto_37 : decode cX3_readInto 37 = .ok (.aload_n 0, 1) := by decide +kernel
theorem dX3_readInto_38 : decode cX3_readInto 38 = .ok (.getfield 9, 3) := by decide +kernel
theorem dX3_readInto_41 : decode cX3_readInto 41 = .ok (.iload 4, 2) := by decide +kernel
theorem dX3_readInto_43 : decode cX3_readInto 43 = .ok (.iaload, 1) := by decide +kernel
theorem dX3_readInto_44 : decode cX3_readInto 44 = .ok (.ior, 1) := by decide +kernel
theorem dX3_readInto_45 : decode cX3_readInto 45 = .ok (.istore_n 3, 1) := by decide +kernel
theorem dX3_readInto_46 : decode cX3_readInto 46 = .ok (.goto 29, 3) := by decide +kernel
theorem dX3_readInto_49 : decode cX3_readInto 49 = .ok (.aload_n 1, 1) := by decide +kernel
theorem dX3_readInto_50 : decode cX3_readInto 50 = .ok (.iload_n 2, 1) := by decide +kernel
theorem dX3_readInto_51 : decode cX3_readInto 51 = .ok (.iload_n 3, 1) := by decide +kernel
theorem dX3_readInto_52 : decode cX3_readInto 52 = .ok (.invokevirtual 49, 3) := by decide +kernel
theorem dX3_readInto_55 : decode cX3_readInto 55 = .ok (.iconst 0, 1) := by decide +kernel
theorem dX3_readInto_56 : decode cX3_readInto 56 = .ok (.istore_n 3, 1) := by decide +kernel
theorem dX3_readInto_57 : decode cX3_readInto 57 = .ok (.aload_n 0, 1) := by decide +kernel
theorem dX3_readInto_58 : decode cX3_readInto 58 = .ok (.getfield 9, 3) := by decide +kernel
theorem dX3_readInto_61 : decode cX3_readInto 61 = .ok (.iload 4, 2) := by decide +kernel
theorem dX3_readInto_63 : decode cX3_readInto 63 = .ok (.iaload, 1) := by decide +kernel
theorem dX3_readInto_64 : decode cX3_readInto 64 = .ok (.bipush 59, 2) := by decide +kernel
theorem dX3_readInto_66 : decode cX3_readInto 66 = .ok (.if_icmp .ne 7, 3) := by decide +kernel
theorem dX3_readInto_69 : decode cX3_readInto 69 = .ok (.iconst 1, 1) := by decide +kernel
theorem dX3_readInto_70 : decode cX3_readInto 70 = .ok (.goto 4, 3) := by decide +kernel
theorem dX3_readInto_73 : decode cX3_readInto 73 = .ok (.iload_n 2, 1) := by decide +kernel
theorem dX3_readInto_74 : decode cX3_readInto 74 = .ok (.istore_n 2, 1) := by decide +kernel
theorem dX3_readInto_75 : decode cX3_readInto 75 = .ok (.iinc 4 1, 3) := by decide +kernel
theorem dX3_readInto_78 : decode cX3_readInto 78 = .ok (.goto (-67), 3) := by decide +kernel
theorem dX3_readInto_81 : decode cX3_readInto 81 = .ok (.aload_n 1, 1) := by decide +kernel
theorem dX3_readInto_82 : decode cX3_readInto 82 = .ok (.iload_n 2, 1) := by decide +kernel
theorem dX3_readInto_83 : decode cX3_readInto 83 = .ok (.iload_n 3, 1) := by decide +kernel
theorem dX3_readInto_84 : decode cX3_readInto 84 = .ok (.invokevirtual 49, 3) := by decide +kernel
theorem dX3_readInto_87 : decode cX3_readInto 87 = .ok (.return_, 1) := by decide +kernel
theorem dX4_init_0 : decode cX4_init 0 = .ok (.aload_n 0, 1) := by decide +kernel
theorem dX4_init_1 : decode cX4_init 1 = .ok (.invokespecial 3, 3) := by decide +kernel
theorem dX4_init_4 : decode cX4_init 4 = .ok (.aload_n 0, 1) := by decide +kernel
theorem dX4_init_5 : decode cX4_init 5 = .ok (.iconst 5, 1) := by decide +kernel
theorem dX4_init_6 : decode cX4_init 6 = .ok (.iconst 3, 1) := by decide +kernel
theorem dX4_init_7 : decode cX4_init 7 = .ok (.multianewarray 9 2, 4) := by decide +kernel
theorem dX4_init_11 : decode cX4_init 11 = .ok (.putfield 11, 3) := by decide +kernel
theorem dX4_init_14 : decode cX4_init 14 = .ok (.aload_n 0, 1) := by decide +kernel
theorem dX4_init_15 : decode cX4_init 15 = .ok (.iconst 5, 1) := by decide +kernel
theorem dX4_init_16 : decode cX4_init 16 = .ok (.newarray .int, 2) := by decide +kernel
theorem dX4_init_18 : decode cX4_init 18 = .ok (.putfield 16, 3) := by decide +kernel
theorem dX4_init_21 : decode cX4_init 21 = .ok (.return_, 1) := by decide +kernel
theorem dX4_clear_0 : decode cX4_clear 0 = .ok (.iconst 0, 1) := by decide +kernel
theorem dX4_clear_1 : decode cX4_clear 1 = .ok (.istore_n 1, 1) := by decide +kernel
theorem dX4_clear_2 : decode cX4_clear 2 = .ok (.iload_n 1, 1) := by decide +kernel
theorem dX4_clear_3 : decode cX4_clear 3 = .ok (.iconst 5, 1) := by decide +kernel
theorem dX4_clear_4 : decode cX4_clear 4 = .ok (.if_icmp .ge 16, 3) := by decide +kernel
theorem dX4_clear_7 : decode cX4_clear 7 = .ok (.aload_n 0, 1) := by decide +kernel
theorem dX4_clear_8 : decode cX4_clear 8 = .ok (.getfield 16, 3) := by decide +kernel
theorem dX4_clear_11 : decode cX4_clear 11 = .ok (.iload_n 1, 1) := by decide +kernel
theorem dX4_clear_12 : decode cX4_clear 12 = .ok (.iconst 0, 1) := by decide +kernel
theorem dX4_clear_13 : decode cX4_clear 13 = .ok (.iastore, 1) := by decide +kernel
theorem dX4_clear_14 : decode cX4_clear 14 = .ok (.iinc 1 1, 3) := by decide +kernel
theorem dX4_clear_17 : decode cX4_clear 17 = .ok (.goto (-15), 3) := by decide +kernel
theorem dX4_clear_20 : decode cX4_clear 20 = .ok (.return_, 1) := by decide +kernel
theorem dX4_append_0 : decode cX4_append 0 = .ok (.iload_n 1, 1) := by decide +kernel
theorem dX4_append_1 : decode cX4_append 1 = .ok (.ifCond .lt 18, 3) := by decide +kernel
theorem dX4_append_4 : decode cX4_append 4 = .ok (.iload_n 1, 1) := by decide +kernel
theorem dX4_append_5 : decode cX4_append 5 = .ok (.iconst 5, 1) := by decide +kernel
theorem dX4_append_6 : decode cX4_append 6 = .ok (.if_icmp .ge 13, 3) := by decide +kernel
theorem dX4_append_9 : decode cX4_append 9 = .ok (.aload_n 0, 1) := by decide +kernel
theorem dX4_append_10 : decode cX4_append 10 = .ok (.getfield 16, 3) := by decide +kernel
theorem dX4_append_13 : decode cX4_append 13 = .ok (.iload_n 1, 1) := by decide +kernel
theorem dX4_append_14 : decode cX4_append 14 = .ok (.iaload, 1) := by decide +kernel
theorem dX4_append_15 : decode cX4_append 15 = .ok (.iconst 3, 1) := by decide +kernel
theorem dX4_append_16 : decode cX4_append 16 = .ok (.if_icmp .lt 6, 3) := by decide +kernel
theorem dX4_append_19 : decode cX4_append 19 = .ok (.bipush (-104), 2) := by decide +kernel
theorem dX4_append_21 : decode cX4_append 21 = .ok (.ireturn, 1) := by decide +kernel
theorem dX4_append_22 : decode cX4_append 22 = .ok (.aload_n 0, 1) := by decide +kernel
theorem dX4_append_23 : decode cX4_append 23 = .ok (.getfield 11, 3) := by decide +kernel
theorem dX4_append_26 : decode cX4_append 26 = .ok (.iload_n 1, 1) := by decide +kernel
theorem dX4_append_27 : decode cX4_append 27 = .ok (.aaload, 1) := by decide +kernel
theorem dX4_append_28 : decode cX4_append 28 = .ok (.aload_n 0, 1) := by decide +kernel
theorem dX4_append_29 : decode cX4_append 29 = .ok (.getfield 16, 3) := by decide +kernel
theorem dX4_append_32 : decode cX4_append 32 = .ok (.iload_n 1, 1) := by decide +kernel
theorem dX4_append_33 : decode cX4_append 33 = .ok (.iaload, 1) := by decide +kernel
theorem dX4_append_34 : decode cX4_append 34 = .ok (.iload_n 2, 1) := by decide +kernel
theorem dX4_append_35 : decode cX4_append 35 = .ok (.iastore, 1) := by decide +kernel
theorem dX4_append_36 : decode cX4_append 36 = .ok (.aload_n 0, 1) := by decide +kernel
theorem dX4_append_37 : decode cX4_append 37 = .ok (.getfield 16, 3) := by decide +kernel
theorem dX4_append_40 : decode cX4_append 40 = .ok (.iload_n 1, 1) := by decide +kernel
theorem dX4_append_41 : decode cX4_append 41 = .ok (.dup2, 1) := by decide +kernel
theorem dX4_append_42 : decode cX4_append 42 = .ok (.iaload, 1) := by decide +kernel
theorem dX4_append_43 : decode cX4_append 43 = .ok (.iconst 1, 1) := by decide +kernel
theorem dX4_append_44 : decode cX4_append 44 = .ok (.iadd, 1) := by decide +kernel
theorem dX4_append_45 : decode cX4_append 45 = .ok (.iastore, 1) := by decide +kernel
theorem dX4_append_46 : decode cX4_append 46 = .ok (.aload_n 0, 1) := by decide +kernel
theorem dX4_append_47 : decode cX4_append 47 = .ok (.getfield 16, 3) := by decide +kernel
theorem dX4_append_50 : decode cX4_append 50 = .ok (.iload_n 1, 1) := by decide +kernel
theorem dX4_append_51 : decode cX4_append 51 = .ok (.iaload, 1) := by decide +kernel
theorem dX4_append_52 : decode cX4_append 52 = .ok (.ireturn, 1) := by decide +kernel
theorem dX4_total_0 : decode cX4_total 0 = .ok (.iconst 0, 1) := by decide +kernel
theorem dX4_total_1 : decode cX4_total 1 = .ok (.istore_n 1, 1) := by decide +kernel
theorem dX4_total_2 : decode cX4_total 2 = .ok (.iconst 0, 1) := by decide +kernel
theorem dX4_total_3 : decode cX4_total 3 = .ok (.istore_n 2, 1) := by decide +kernel
theorem dX4_total_4 : decode cX4_total 4 = .ok (.iload_n 2, 1) := by decide +kernel
theorem dX4_total_5 : decode cX4_total 5 = .ok (.iconst 5, 1) := by decide +kernel
theorem dX4_total_6 : decode cX4_total 6 = .ok (.if_icmp .ge 18, 3) := by decide +kernel
theorem dX4_total_9 : decode cX4_total 9 = .ok (.iload_n 1, 1) := by decide +kernel
theorem dX4_total_10 : decode cX4_total 10 = .ok (.aload_n 0, 1) := by decide +kernel
theorem dX4_total_11 : decode cX4_total 11 = .ok (.getfield 16, 3) := by decide +kernel
theorem dX4_total_14 : decode cX4_total 14 = .ok (.iload_n 2, 1) := by decide +kernel
theorem dX4_total_15 : decode cX4_total 15 = .ok (.iaload, 1) := by decide +kernel
theorem dX4_total_16 : decode cX4_total 16 = .ok (.iadd, 1) := by decide +kernel
theorem dX4_total_17 : decode cX4_total 17 = .ok (.istore_n 1, 1) := by decide +kernel
theorem dX4_total_18 : decode cX4_total 18 = .ok (.iinc 2 1, 3) := by decide +kernel
theorem dX4_total_21 : decode cX4_total 21 = .ok (.goto (-17), 3) := by decide +kernel
theorem dX4_total_24 : decode cX4_total 24 = .ok (.iload_n 1, 1) := by decide +kernel
theorem dX4_total_25 : decode cX4_total 25 = .ok (.ireturn, 1) := by decide +kernel
theorem dX5_init_0 : decode cX5_init 0 = .ok (.aload_n 0, 1) := by decide +kernel
theorem dX5_init_1 : decode cX5_init 1 = .ok (.invokespecial 3, 3) := by decide +kernel
theorem dX5_init_4 : decode cX5_init 4 = .ok (.return_, 1) := by decide +kernel
theorem dX5_begin_0 : decode cX5_begin 0 = .ok (.aload_n 0, 1) := by decide +kernel
theorem dX5_begin_1 : decode cX5_begin 1 = .ok (.iconst 0, 1) := by decide +kernel
theorem dX5_begin_2 : decode cX5_begin 2 = .ok (.putfield 9, 3) := by decide +kernel
theorem dX5_begin_5 : decode cX5_begin 5 = .ok (.aload_n 0, 1) := by decide +kernel
theorem dX5_begin_6 : decode cX5_begin 6 = .ok (.iconst 0, 1) := by decide +kernel
theorem dX5_begin_7 : decode cX5_begin 7 = .ok (.putfield 15, 3) := by decide +kernel
theorem dX5_begin_10 : decode cX5_begin 10 = .ok (.aload_n 0, 1) := by decide +kernel
theorem dX5_begin_11 : decode cX5_begin 11 = .ok (.iconst 0, 1) := by decide +kernel
theorem dX5_begin_12 : decode cX5_begin 12 = .ok (.putfield 18, 3) := by decide +kernel
theorem dX5_begin_15 : decode cX5_begin 15 = .ok (.return_, 1) := by decide +kernel
theorem dX5_takes_0 : decode cX5_takes 0 = .ok (.iload_n 1, 1) := by decide +kernel
theorem dX5_takes_1 : decode cX5_takes 1 = .ok (.invokestatic 21, 3) := by decide +kernel
theorem dX5_takes_4 : decode cX5_takes 4 = .ok (.ifCond .eq 8, 3) := by decide +kernel
theorem dX5_takes_7 : decode cX5_takes 7 = .ok (.aload_n 0, 1) := by decide +kernel
theorem dX5_takes_8 : decode cX5_takes 8 = .ok (.invokevirtual 25, 3) := by decide +kernel
theorem dX5_takes_11 : decode cX5_takes 11 = .ok (.ireturn, 1) := by decide +kernel
theorem dX5_takes_12 : decode cX5_takes 12 = .ok (.iload_n 1, 1) := by decide +kernel
theorem dX5_takes_13 : decode cX5_takes 13 = .ok (.bipush 44, 2) := by decide +kernel
theorem dX5_takes_15 : decode cX5_takes 15 = .ok (.if_icmp .ne 8, 3) := by decide +kernel
theorem dX5_takes_18 : decode cX5_takes 18 = .ok (.aload_n 0, 1) := by decide +kernel
theorem dX5_takes_19 : decode cX5_takes 19 = .ok (.invokevirtual 29, 3) := by decide +kernel
theorem dX5_takes_22 : decode cX5_takes 22 = .ok (.ireturn, 1) := by decide +kernel
theorem dX5_takes_23 : decode cX5_takes 23 = .ok (.iload_n 1, 1) := by decide +kernel
theorem dX5_takes_24 : decode cX5_takes 24 = .ok (.bipush 59, 2) := by decide +kernel
theorem dX5_takes_26 : decode cX5_takes 26 = .ok (.if_icmp .ne 14, 3) := by decide +kernel
theorem dX5_takes_29 : decode cX5_takes 29 = .ok (.aload_n 0, 1) := by decide +kernel
theorem dX5_takes_30 : decode cX5_takes 30 = .ok (.invokevirtual 32, 3) := by decide +kernel
theorem dX5_takes_33 : decode cX5_takes 33 = .ok (.ifCond .eq 7, 3) := by decide +kernel
theorem dX5_takes_36 : decode cX5_takes 36 = .ok (.iconst 1, 1) := by decide +kernel
theorem dX5_takes_37 : decode cX5_takes 37 = .ok (.goto 4, 3) := by decide +kernel
theorem dX5_takes_40 : decode cX5_takes 40 = .ok (.iconst 0, 1) := by decide +kernel
theorem dX5_takes_41 : decode cX5_takes 41 = .ok (.ireturn, 1) := by decide +kernel
theorem dX5_takesLetter_0 : decode cX5_takesLetter 0 = .ok (.aload_n 0, 1) := by decide +kernel
theorem dX5_takesLetter_1 : decode cX5_takesLetter 1 = .ok (.getfield 18, 3) := by decide +kernel
theorem dX5_takesLetter_4 : decode cX5_takesLetter 4 = .ok (.iconst 3, 1) := by decide +kernel
theorem dX5_takesLetter_5 : decode cX5_takesLetter 5 = .ok (.if_icmp .ne 5, 3) := by decide +kernel
theorem dX5_takesLetter_8 : decode cX5_takesLetter 8 = .ok (.iconst 0, 1) := by decide +kernel
theorem dX5_takesLetter_9 : decode cX5_takesLetter 9 = .ok (.ireturn, 1) := by decide +kernel
theorem dX5_takesLetter_10 : decode cX5_takesLetter 10 = .ok (.aload_n 0, 1) := by decide +kernel
theorem dX5_takesLetter_11 : decode cX5_takesLetter 11 = .ok (.getfield 18, 3) := by decide +kernel
theorem dX5_takesLetter_14 : decode cX5_takesLetter 14 = .ok (.ifCond .ne 13, 3) := by decide +kernel
theorem dX5_takesLetter_17 : decode cX5_takesLetter 17 = .ok (.aload_n 0, 1) := by decide +kernel
theorem dX5_takesLetter_18 : decode cX5_takesLetter 18 = .ok (.dup, 1) := by decide +kernel
theorem dX5_takesLetter_19 : decode cX5_takesLetter 19 = .ok (.getfield 15, 3) := by decide +kernel
theorem dX5_takesLetter_22 : decode cX5_takesLetter 22 = .ok (.iconst 1, 1) := by decide +kernel
theorem dX5_takesLetter_23 : decode cX5_takesLetter 23 = .ok (.iadd, 1) := by decide +kernel
theorem dX5_takesLetter_24 : decode cX5_takesLetter 24 = .ok (.putfield 15, 3) := by decide +kernel
theorem dX5_takesLetter_27 : decode cX5_takesLetter 27 = .ok (.aload_n 0, 1) := by decide +kernel
theorem dX5_takesLetter_28 : decode cX5_takesLetter 28 = .ok (.dup, 1) := by decide +kernel
theorem dX5_takesLetter_29 : decode cX5_takesLetter 29 = .ok (.getfield 18, 3) := by decide +kernel
theorem dX5_takesLetter_32 : decode cX5_takesLetter 32 = .ok (.iconst 1, 1) := by decide +kernel
theorem dX5_takesLetter_33 : decode cX5_takesLetter 33 = .ok (.iadd, 1) := by decide +kernel
theorem dX5_takesLetter_34 : decode cX5_takesLetter 34 = .ok (.putfield 18, 3) := by decide +kernel
theorem dX5_takesLetter_37 : decode cX5_takesLetter 37 = .ok (.iconst 1, 1) := by decide +kernel
theorem dX5_takesLetter_38 : decode cX5_takesLetter 38 = .ok (.ireturn, 1) := by decide +kernel
theorem dX5_takesComma_0 : decode cX5_takesComma 0 = .ok (.aload_n 0, 1) := by decide +kernel
theorem dX5_takesComma_1 : decode cX5_takesComma 1 = .ok (.getfield 18, 3) := by decide +kernel
theorem dX5_takesComma_4 : decode cX5_takesComma 4 = .ok (.ifCond .eq 12, 3) := by decide +kernel
theorem dX5_takesComma_7 : decode cX5_takesComma 7 = .ok (.aload_n 0, 1) := by decide +kernel
theorem dX5_takesComma_8 : decode cX5_takesComma 8 = .ok (.getfield 15, 3) := by decide +kernel
theorem dX5_takesComma_11 : decode cX5_takesComma 11 = .ok (.bipush 8, 2) := by decide +kernel
theorem dX5_takesComma_13 : decode cX5_takesComma 13 = .ok (.if_icmp .ne 5, 3) := by decide +kernel
theorem dX5_takesComma_16 : decode cX5_takesComma 16 = .ok (.iconst 0, 1) := by decide +kernel
theorem dX5_takesComma_17 : decode cX5_takesComma 17 = .ok (.ireturn, 1) := by decide +kernel
theorem dX5_takesComma_18 : decode cX5_takesComma 18 = .ok (.aload_n 0, 1) := by decide +kernel
theorem dX5_takesComma_19 : decode cX5_takesComma 19 = .ok (.iconst 0, 1) := by decide +kernel
theorem dX5_takesComma_20 : decode cX5_takesComma 20 = .ok (.putfield 18, 3) := by decide +kernel
theorem dX5_takesComma_23 : decode cX5_takesComma 23 = .ok (.iconst 1, 1) := by decide +kernel
theorem dX5_takesComma_24 : decode cX5_takesComma 24 = .ok (.ireturn, 1) := by decide +kernel
theorem dX5_takesSemicolon_0 : decode cX5_takesSemicolon 0 = .ok (.aload_n 0, 1) := by decide +kernel
theorem dX5_takesSemicolon_1 : decode cX5_takesSemicolon 1 = .ok (.getfield 9, 3) := by decide +kernel
theorem dX5_takesSemicolon_4 : decode cX5_takesSemicolon 4 = .ok (.iconst 1, 1) := by decide +kernel
theorem dX5_takesSemicolon_5 : decode cX5_takesSemicolon 5 = .ok (.if_icmp .eq 10, 3) := by decide +kernel
theorem dX5_takesSemicolon_8 : decode cX5_takesSemicolon 8 = .ok (.aload_n 0, 1) := by decide +kernel
theorem dX5_takesSemicolon_9 : decode cX5_takesSemicolon 9 = .ok (.invokevirtual 35, 3) := by decide +kernel
theorem dX5_takesSemicolon_12 : decode cX5_takesSemicolon 12 = .ok (.ifCond .ne 5, 3) := by decide +kernel
theorem dX5_takesSemicolon_15 : decode cX5_takesSemicolon 15 = .ok (.iconst 0, 1) := by decide +kernel
theorem dX5_takesSemicolon_16 : decode cX5_takesSemicolon 16 = .ok (.ireturn, 1) := by decide +kernel
theorem dX5_takesSemicolon_17 : decode cX5_takesSemicolon 17 = .ok (.aload_n 0, 1) := by decide +kernel
theorem dX5_takesSemicolon_18 : decode cX5_takesSemicolon 18 = .ok (.iconst 1, 1) := by decide +kernel
theorem dX5_takesSemicolon_19 : decode cX5_takesSemicolon 19 = .ok (.putfield 9, 3) := by decide +kernel
theorem dX5_takesSemicolon_22 : decode cX5_takesSemicolon 22 = .ok (.aload_n 0, 1) := by decide +kernel
theorem dX5_takesSemicolon_23 : decode cX5_takesSemicolon 23 = .ok (.iconst 0, 1) := by decide +kernel
theorem dX5_takesSemicolon_24 : decode cX5_takesSemicolon 24 = .ok (.putfield 15, 3) := by decide +kernel
theorem dX5_takesSemicolon_27 : decode cX5_takesSemicolon 27 = .ok (.aload_n 0, 1) := by decide +kernel
theorem dX5_takesSemicolon_28 : decode cX5_takesSemicolon 28 = .ok (.iconst 0, 1) := by decide +kernel
theorem dX5_takesSemicolon_29 : decode cX5_takesSemicolon 29 = .ok (.putfield 18, 3) := by decide +kernel
theorem dX5_takesSemicolon_32 : decode cX5_takesSemicolon 32 = .ok (.iconst 1, 1) := by decide +kernel
theorem dX5_takesSemicolon_33 : decode cX5_takesSemicolon 33 = .ok (.ireturn, 1) := by decide +kernel
theorem dX5_mayEnd_0 : decode cX5_mayEnd 0 = .ok (.aload_n 0, 1) := by decide +kernel
theorem dX5_mayEnd_1 : decode cX5_mayEnd 1 = .ok (.getfield 9, 3) := by decide +kernel
theorem dX5_mayEnd_4 : decode cX5_mayEnd 4 = .ok (.iconst 1, 1) := by decide +kernel
theorem dX5_mayEnd_5 : decode cX5_mayEnd 5 = .ok (.if_icmp .ne 14, 3) := by decide +kernel
theorem dX5_mayEnd_8 : decode cX5_mayEnd 8 = .ok (.aload_n 0, 1) := by decide +kernel
theorem dX5_mayEnd_9 : decode cX5_mayEnd 9 = .ok (.invokevirtual 35, 3) := by decide +kernel
theorem dX5_mayEnd_12 : decode cX5_mayEnd 12 = .ok (.ifCond .eq 7, 3) := by decide +kernel
theorem dX5_mayEnd_15 : decode cX5_mayEnd 15 = .ok (.iconst 1, 1) := by decide +kernel
theorem dX5_mayEnd_16 : decode cX5_mayEnd 16 = .ok (.goto 4, 3) := by decide +kernel
theorem dX5_mayEnd_19 : decode cX5_mayEnd 19 = .ok (.iconst 0, 1) := by decide +kernel
theorem dX5_mayEnd_20 : decode cX5_mayEnd 20 = .ok (.ireturn, 1) := by decide +kernel
theorem dX5_sideMayEnd_0 : decode cX5_sideMayEnd 0 = .ok (.aload_n 0, 1) := by decide +kernel
theorem dX5_sideMayEnd_1 : decode cX5_sideMayEnd 1 = .ok (.getfield 15, 3) := by decide +kernel
theorem dX5_sideMayEnd_4 : decode cX5_sideMayEnd 4 = .ok (.ifCond .eq 10, 3) := by decide +kernel
theorem dX5_sideMayEnd_7 : decode cX5_sideMayEnd 7 = .ok (.aload_n 0, 1) := by decide +kernel
theorem dX5_sideMayEnd_8 : decode cX5_sideMayEnd 8 = .ok (.getfield 18, 3) := by decide +kernel
theorem dX5_sideMayEnd_11 : decode cX5_sideMayEnd 11 = .ok (.ifCond .le 7, 3) := by decide +kernel
theorem dX5_sideMayEnd_14 : decode cX5_sideMayEnd 14 = .ok (.iconst 1, 1) := by decide +kernel
theorem dX5_sideMayEnd_15 : decode cX5_sideMayEnd 15 = .ok (.goto 4, 3) := by decide +kernel
theorem dX5_sideMayEnd_18 : decode cX5_sideMayEnd 18 = .ok (.iconst 0, 1) := by decide +kernel
theorem dX5_sideMayEnd_19 : decode cX5_sideMayEnd 19 = .ok (.ireturn, 1) := by decide +kernel
theorem dX6_init_0 : decode cX6_init 0 = .ok (.aload_n 0, 1) := by decide +kernel
theorem dX6_init_1 : decode cX6_init 1 = .ok (.invokespecial 3, 3) := by decide +kernel
theorem dX6_init_4 : decode cX6_init 4 = .ok (.aload_n 0, 1) := by decide +kernel
theorem dX6_init_5 : decode cX6_init 5 = .ok (.bipush 16, 2) := by decide +kernel
theorem dX6_init_7 : decode cX6_init 7 = .ok (.newarray .int, 2) := by decide +kernel
theorem dX6_init_9 : decode cX6_init 9 = .ok (.putfield 9, 3) := by decide +kernel
theorem dX6_init_12 : decode cX6_init 12 = .ok (.aload_n 0, 1) := by decide +kernel
theorem dX6_init_13 : decode cX6_init 13 = .ok (.bipush 16, 2) := by decide +kernel
theorem dX6_init_15 : decode cX6_init 15 = .ok (.newarray .int, 2) := by decide +kernel
theorem dX6_init_17 : decode cX6_init 17 = .ok (.putfield 15, 3) := by decide +kernel
theorem dX6_init_20 : decode cX6_init 20 = .ok (.aload_n 0, 1) := by decide +kernel
theorem dX6_init_21 : decode cX6_init 21 = .ok (.bipush 16, 2) := by decide +kernel
theorem dX6_init_23 : decode cX6_init 23 = .ok (.newarray .int, 2) := by decide +kernel
theorem dX6_init_25 : decode cX6_init 25 = .ok (.putfield 18, 3) := by decide +kernel
theorem dX6_init_28 : decode cX6_init 28 = .ok (.aload_n 0, 1) := by decide +kernel
theorem dX6_init_29 : decode cX6_init 29 = .ok (.bipush 16, 2) := by decide +kernel
theorem dX6_init_31 : decode cX6_init 31 = .ok (.newarray .int, 2) := by decide +kernel
theorem dX6_init_33 : decode cX6_init 33 = .ok (.putfield 21, 3) := by decide +kernel
theorem dX6_init_36 : decode cX6_init 36 = .ok (.aload_n 0, 1) := by decide +kernel
theorem dX6_init_37 : decode cX6_init 37 = .ok (.bipush 16, 2) := by decide +kernel
theorem dX6_init_39 : decode cX6_init 39 = .ok (.newarray .int, 2) := by decide +kernel
theorem dX6_init_41 : decode cX6_init 41 = .ok (.putfield 24, 3) := by decide +kernel
theorem dX6_init_44 : decode cX6_init 44 = .ok (.aload_n 0, 1) := by decide +kernel
theorem dX6_init_45 : decode cX6_init 45 = .ok (.iconst 2, 1) := by decide +kernel
theorem dX6_init_46 : decode cX6_init 46 = .ok (.bipush 8, 2) := by decide +kernel
theorem dX6_init_48 : decode cX6_init 48 = .ok (.multianewarray 27 2, 4) := by decide +kernel
theorem dX6_init_52 : decode cX6_init 52 = .ok (.putfield 29, 3) := by decide +kernel
theorem dX6_init_55 : decode cX6_init 55 = .ok (.aload_n 0, 1) := by decide +kernel
theorem dX6_init_56 : decode cX6_init 56 = .ok (.iconst 0, 1) := by decide +kernel
theorem dX6_init_57 : decode cX6_init 57 = .ok (.putfield 32, 3) := by decide +kernel
theorem dX6_init_60 : decode cX6_init 60 = .ok (.aload_n 0, 1) := by decide +kernel
theorem dX6_init_61 : decode cX6_init 61 = .ok (.iconst 0, 1) := by decide +kernel
theorem dX6_init_62 : decode cX6_init 62 = .ok (.putfield 36, 3) := by decide +kernel
theorem dX6_init_65 : decode cX6_init 65 = .ok (.return_, 1) := by decide +kernel
theorem dX6_has_0 : decode cX6_has 0 = .ok (.iload_n 1, 1) := by decide +kernel
theorem dX6_has_1 : decode cX6_has 1 = .ok (.ifCond .lt 15, 3) := by decide +kernel
theorem dX6_has_4 : decode cX6_has 4 = .ok (.iload_n 1, 1) := by decide +kernel
theorem dX6_has_5 : decode cX6_has 5 = .ok (.aload_n 0, 1) := by decide +kernel
theorem dX6_has_6 : decode cX6_has 6 = .ok (.getfield 32, 3) := by decide +kernel
theorem dX6_has_9 : decode cX6_has 9 = .ok (.if_icmp .ge 7, 3) := by decide +kernel
theorem dX6_has_12 : decode cX6_has 12 = .ok (.iconst 1, 1) := by decide +kernel
theorem dX6_has_13 : decode cX6_has 13 = .ok (.goto 4, 3) := by decide +kernel
theorem dX6_has_16 : decode cX6_has 16 = .ok (.iconst 0, 1) := by decide +kernel
theorem dX6_has_17 : decode cX6_has 17 = .ok (.ireturn, 1) := by decide +kernel
theorem dX6_howManyOf_0 : decode cX6_howManyOf 0 = .ok (.iconst 0, 1) := by decide +kernel
theorem dX6_howManyOf_1 : decode cX6_howManyOf 1 = .ok (.istore_n 2, 1) := by decide +kernel
theorem dX6_howManyOf_2 : decode cX6_howManyOf 2 = .ok (.iconst 0, 1) := by decide +kernel
theorem dX6_howManyOf_3 : decode cX6_howManyOf 3 = .ok (.istore_n 3, 1) := by decide +kernel
theorem dX6_howManyOf_4 : decode cX6_howManyOf 4 = .ok (.iload_n 3, 1) := by decide +kernel
theorem dX6_howManyOf_5 : decode cX6_howManyOf 5 = .ok (.aload_n 0, 1) := by decide +kernel
theorem dX6_howManyOf_6 : decode cX6_howManyOf 6 = .ok (.getfield 32, 3) := by decide +kernel
theorem dX6_howManyOf_9 : decode cX6_howManyOf 9 = .ok (.if_icmp .ge 27, 3) := by decide +kernel
theorem dX6_howManyOf_12 : decode cX6_howManyOf 12 = .ok (.iload_n 2, 1) := by decide +kernel
theorem dX6_howManyOf_13 : decode cX6_howManyOf 13 = .ok (.aload_n 0, 1) := by decide +kernel
theorem dX6_howManyOf_14 : decode cX6_howManyOf 14 = .ok (.getfield 9, 3) := by decide +kernel
theorem dX6_howManyOf_17 : decode cX6_howManyOf 17 = .ok (.iload_n 3, 1) := by decide +kernel
theorem dX6_howManyOf_18 : decode cX6_howManyOf 18 = .ok (.iaload, 1) := by decide +kernel
theorem dX6_howManyOf_19 : decode cX6_howManyOf 19 = .ok (.iload_n 1, 1) := by decide +kernel
theorem dX6_howManyOf_20 : decode cX6_howManyOf 20 = .ok (.if_icmp .ne 7, 3) := by decide +kernel
theorem dX6_howManyOf_23 : decode cX6_howManyOf 23 = .ok (.iconst 1, 1) := by decide +kernel
theorem dX6_howManyOf_24 : decode cX6_howManyOf 24 = .ok (.goto 4, 3) := by decide +kernel
theorem dX6_howManyOf_27 : decode cX6_howManyOf 27 = .ok (.iconst 0, 1) := by decide +kernel
theorem dX6_howManyOf_28 : decode cX6_howManyOf 28 = .ok (.iadd, 1) := by decide +kernel
theorem dX6_howManyOf_29 : decode cX6_howManyOf 29 = .ok (.istore_n 2, 1) := by decide +kernel
theorem dX6_howManyOf_30 : decode cX6_howManyOf 30 = .ok (.iinc 3 1, 3) := by decide +kernel
theorem dX6_howManyOf_33 : decode cX6_howManyOf 33 = .ok (.goto (-29), 3) := by decide +kernel
theorem dX6_howManyOf_36 : decode cX6_howManyOf 36 = .ok (.iload_n 2, 1) := by decide +kernel
theorem dX6_howManyOf_37 : decode cX6_howManyOf 37 = .ok (.ireturn, 1) := by decide +kernel
theorem dX6_build_0 : decode cX6_build 0 = .ok (.aload_n 0, 1) := by decide +kernel
theorem dX6_build_1 : decode cX6_build 1 = .ok (.iconst 0, 1) := by decide +kernel
theorem dX6_build_2 : decode cX6_build 2 = .ok (.putfield 32, 3) := by decide +kernel
theorem dX6_build_5 : decode cX6_build 5 = .ok (.aload_n 0, 1) := by decide +kernel
theorem dX6_build_6 : decode cX6_build 6 = .ok (.iconst 0, 1) := by decide +kernel
theorem dX6_build_7 : decode cX6_build 7 = .ok (.putfield 36, 3) := by decide +kernel
theorem dX6_build_10 : decode cX6_build 10 = .ok (.aload_n 1, 1) := by decide +kernel
theorem dX6_build_11 : decode cX6_build 11 = .ok (.getfield 39, 3) := by decide +kernel
theorem dX6_build_14 : decode cX6_build 14 = .ok (.astore_n 3, 1) := by decide +kernel
theorem dX6_build_15 : decode cX6_build 15 = .ok (.iconst 0, 1) := by decide +kernel
theorem dX6_build_16 : decode cX6_build 16 = .ok (.istore 4, 2) := by decide +kernel
theorem dX6_build_18 : decode cX6_build 18 = .ok (.iload 4, 2) := by decide +kernel
theorem dX6_build_20 : decode cX6_build 20 = .ok (.bipush 8, 2) := by decide +kernel
theorem dX6_build_22 : decode cX6_build 22 = .ok (.if_icmp .ge 29, 3) := by decide +kernel
theorem dX6_build_25 : decode cX6_build 25 = .ok (.aload_n 0, 1) := by decide +kernel
theorem dX6_build_26 : decode cX6_build 26 = .ok (.getfield 29, 3) := by decide +kernel
theorem dX6_build_29 : decode cX6_build 29 = .ok (.iconst 0, 1) := by decide +kernel
theorem dX6_build_30 : decode cX6_build 30 = .ok (.aaload, 1) := by decide +kernel
theorem dX6_build_31 : decode cX6_build 31 = .ok (.iload 4, 2) := by decide +kernel
theorem dX6_build_33 : decode cX6_build 33 = .ok (.iconst (-1), 1) := by decide +kernel
theorem dX6_build_34 : decode cX6_build 34 = .ok (.iastore, 1) := by decide +kernel
theorem dX6_build_35 : decode cX6_build 35 = .ok (.aload_n 0, 1) := by decide +kernel
theorem dX6_build_36 : decode cX6_build 36 = .ok (.getfield 29, 3) := by decide +kernel
theorem dX6_build_39 : decode cX6_build 39 = .ok (.iconst 1, 1) := by decide +kernel
theorem dX6_build_40 : decode cX6_build 40 = .ok (.aaload, 1) := by decide +kernel
theorem dX6_build_41 : decode cX6_build 41 = .ok (.iload 4, 2) := by decide +kernel
theorem dX6_build_43 : decode cX6_build 43 = .ok (.iconst (-1), 1) := by decide +kernel
theorem dX6_build_44 : decode cX6_build 44 = .ok (.iastore, 1) := by decide +kernel
theorem dX6_build_45 : decode cX6_build 45 = .ok (.iinc 4 1, 3) := by decide +kernel
theorem dX6_build_48 : decode cX6_build 48 = .ok (.goto (-30), 3) := by decide +kernel
theorem dX6_build_51 : decode cX6_build 51 = .ok (.iconst 0, 1) := by decide +kernel
theorem dX6_build_52 : decode cX6_build 52 = .ok (.istore 4, 2) := by decide +kernel
theorem dX6_build_54 : decode cX6_build 54 = .ok (.iconst 0, 1) := by decide +kernel
theorem dX6_build_55 : decode cX6_build 55 = .ok (.istore 5, 2) := by decide +kernel
theorem dX6_build_57 : decode cX6_build 57 = .ok (.iconst 0, 1) := by decide +kernel
theorem dX6_build_58 : decode cX6_build 58 = .ok (.istore 6, 2) := by decide +kernel
theorem dX6_build_60 : decode cX6_build 60 = .ok (.iload 6, 2) := by decide +kernel
theorem dX6_build_62 : decode cX6_build 62 = .ok (.bipush 8, 2) := by decide +kernel
theorem dX6_build_64 : decode cX6_build 64 = .ok (.if_icmp .gt 131, 3) := by decide +kernel
theorem dX6_build_67 : decode cX6_build 67 = .ok (.aload_n 0, 1) := by decide +kernel
theorem dX6_build_68 : decode cX6_build 68 = .ok (.aload_n 1, 1) := by decide +kernel
theorem dX6_build_69 : decode cX6_build 69 = .ok (.iconst 0, 1) := by decide +kernel
theorem dX6_build_70 : decode cX6_build 70 = .ok (.iload 4, 2) := by decide +kernel
theorem dX6_build_72 : decode cX6_build 72 = .ok (.invokevirtual 45, 3) := by decide +kernel
theorem dX6_build_75 : decode cX6_build 75 = .ok (.istore 7, 2) := by decide +kernel
theorem dX6_build_77 : decode cX6_build 77 = .ok (.aload_n 0, 1) := by decide +kernel
theorem dX6_build_78 : decode cX6_build 78 = .ok (.aload_n 1, 1) := by decide +kernel
theorem dX6_build_79 : decode cX6_build 79 = .ok (.iconst 1, 1) := by decide +kernel
theorem dX6_build_80 : decode cX6_build 80 = .ok (.iload 5, 2) := by decide +kernel
theorem dX6_build_82 : decode cX6_build 82 = .ok (.invokevirtual 45, 3) := by decide +kernel
theorem dX6_build_85 : decode cX6_build 85 = .ok (.istore 8, 2) := by decide +kernel
theorem dX6_build_87 : decode cX6_build 87 = .ok (.iload 4, 2) := by decide +kernel
theorem dX6_build_89 : decode cX6_build 89 = .ok (.iload 7, 2) := by decide +kernel
theorem dX6_build_91 : decode cX6_build 91 = .ok (.if_icmp .lt 10, 3) := by decide +kernel
theorem dX6_build_94 : decode cX6_build 94 = .ok (.iload 5, 2) := by decide +kernel
theorem dX6_build_96 : decode cX6_build 96 = .ok (.iload 8, 2) := by decide +kernel
theorem dX6_build_98 : decode cX6_build 98 = .ok (.if_icmp .ge 45, 3) := by decide +kernel
theorem dX6_build_101 : decode cX6_build 101 = .ok (.aload_n 0, 1) := by decide +kernel
theorem dX6_build_102 : decode cX6_build 102 = .ok (.aload_n 3, 1) := by decide +kernel
theorem dX6_build_103 : decode cX6_build 103 = .ok (.aload_n 2, 1) := by decide +kernel
theorem dX6_build_104 : decode cX6_build 104 = .ok (.iload 4, 2) := by decide +kernel
theorem dX6_build_106 : decode cX6_build 106 = .ok (.iload 7, 2) := by decide +kernel
theorem dX6_build_108 : decode cX6_build 108 = .ok (.iload 5, 2) := by decide +kernel
theorem dX6_build_110 : decode cX6_build 110 = .ok (.iload 8, 2) := by decide +kernel
theorem dX6_build_112 : decode cX6_build 112 = .ok (.invokevirtual 49, 3) := by decide +kernel
theorem dX6_build_115 : decode cX6_build 115 = .ok (.aload_n 0, 1) := by decide +kernel
theorem dX6_build_116 : decode cX6_build 116 = .ok (.iload 4, 2) := by decide +kernel
theorem dX6_build_118 : decode cX6_build 118 = .ok (.iload 7, 2) := by decide +kernel
theorem dX6_build_120 : decode cX6_build 120 = .ok (.invokevirtual 53, 3) := by decide +kernel
theorem dX6_build_123 : decode cX6_build 123 = .ok (.aload_n 0, 1) := by decide +kernel
theorem dX6_build_124 : decode cX6_build 124 = .ok (.aload_n 3, 1) := by decide +kernel
theorem dX6_build_125 : decode cX6_build 125 = .ok (.aload_n 2, 1) := by decide +kernel
theorem dX6_build_126 : decode cX6_build 126 = .ok (.iload 5, 2) := by decide +kernel
theorem dX6_build_128 : decode cX6_build 128 = .ok (.iload 8, 2) := by decide +kernel
theorem dX6_build_130 : decode cX6_build 130 = .ok (.invokevirtual 57, 3) := by decide +kernel
theorem dX6_build_133 : decode cX6_build 133 = .ok (.aload_n 0, 1) := by decide +kernel
theorem dX6_build_134 : decode cX6_build 134 = .ok (.dup, 1) := by decide +kernel
theorem dX6_build_135 : decode cX6_build 135 = .ok (.getfield 36, 3) := by decide +kernel
theorem dX6_build_138 : decode cX6_build 138 = .ok (.iconst 1, 1) := by decide +kernel
theorem dX6_build_139 : decode cX6_build 139 = .ok (.iadd, 1) := by decide +kernel
theorem dX6_build_140 : decode cX6_build 140 = .ok (.putfield 36, 3) := by decide +kernel
theorem dX6_build_143 : decode cX6_build 143 = .ok (.iload 7, 2) := by decide +kernel
theorem dX6_build_145 : decode cX6_build 145 = .ok (.aload_n 3, 1) := by decide +kernel
theorem dX6_build_146 : decode cX6_build 146 = .ok (.getfield 61, 3) := by decide +kernel
theorem dX6_build_149 : decode cX6_build 149 = .ok (.iconst 0, 1) := by decide +kernel
theorem dX6_build_150 : decode cX6_build 150 = .ok (.iaload, 1) := by decide +kernel
theorem dX6_build_151 : decode cX6_build 151 = .ok (.if_icmp .ge 14, 3) := by decide +kernel
theorem dX6_build_154 : decode cX6_build 154 = .ok (.iload 8, 2) := by decide +kernel
theorem dX6_build_156 : decode cX6_build 156 = .ok (.aload_n 3, 1) := by decide +kernel
theorem dX6_build_157 : decode cX6_build 157 = .ok (.getfield 61, 3) := by decide +kernel
theorem dX6_build_160 : decode cX6_build 160 = .ok (.iconst 1, 1) := by decide +kernel
theorem dX6_build_161 : decode cX6_build 161 = .ok (.iaload, 1) := by decide +kernel
theorem dX6_build_162 : decode cX6_build 162 = .ok (.if_icmp .lt 4, 3) := by decide +kernel
theorem dX6_build_165 : decode cX6_build 165 = .ok (.return_, 1) := by decide +kernel
theorem dX6_build_166 : decode cX6_build 166 = .ok (.aload_n 0, 1) := by decide +kernel
theorem dX6_build_167 : decode cX6_build 167 = .ok (.iconst 0, 1) := by decide +kernel
theorem dX6_build_168 : decode cX6_build 168 = .ok (.iload 7, 2) := by decide +kernel
theorem dX6_build_170 : decode cX6_build 170 = .ok (.iload 8, 2) := by decide +kernel
theorem dX6_build_172 : decode cX6_build 172 = .ok (.fconst 1, 1) := by decide +kernel
theorem dX6_build_173 : decode cX6_build 173 = .ok (.iconst (-1), 1) := by decide +kernel
theorem dX6_build_174 : decode cX6_build 174 = .ok (.invokevirtual 65, 3) := by decide +kernel
theorem dX6_build_177 : decode cX6_build 177 = .ok (.iload 7, 2) := by decide +kernel
theorem dX6_build_179 : decode cX6_build 179 = .ok (.iconst 1, 1) := by decide +kernel
theorem dX6_build_180 : decode cX6_build 180 = .ok (.iadd, 1) := by decide +kernel
theorem dX6_build_181 : decode cX6_build 181 = .ok (.istore 4, 2) := by decide +kernel
theorem dX6_build_183 : decode cX6_build 183 = .ok (.iload 8, 2) := by decide +kernel
theorem dX6_build_185 : decode cX6_build 185 = .ok (.iconst 1, 1) := by decide +kernel
theorem dX6_build_186 : decode cX6_build 186 = .ok (.iadd, 1) := by decide +kernel
theorem dX6_build_187 : decode cX6_build 187 = .ok (.istore 5, 2) := by decide +kernel
theorem dX6_build_189 : decode cX6_build 189 = .ok (.iinc 6 1, 3) := by decide +kernel
theorem dX6_build_192 : decode cX6_build 192 = .ok (.goto (-132), 3) := by decide +kernel
theorem dX6_build_195 : decode cX6_build 195 = .ok (.return_, 1) := by decide +kernel
theorem dX6_nextKept_0 : decode cX6_nextKept 0 = .ok (.iload_n 3, 1) := by decide +kernel
theorem dX6_nextKept_1 : decode cX6_nextKept 1 = .ok (.istore 4, 2) := by decide +kernel
theorem dX6_nextKept_3 : decode cX6_nextKept 3 = .ok (.iload 4, 2) := by decide +kernel
theorem dX6_nextKept_5 : decode cX6_nextKept 5 = .ok (.aload_n 1, 1) := by decide +kernel
theorem dX6_nextKept_6 : decode cX6_nextKept 6 = .ok (.getfield 39, 3) := by decide +kernel
theorem dX6_nextKept_9 : decode cX6_nextKept 9 = .ok (.getfield 61, 3) := by decide +kernel
theorem dX6_nextKept_12 : decode cX6_nextKept 12 = .ok (.iload_n 2, 1) := by decide +kernel
theorem dX6_nextKept_13 : decode cX6_nextKept 13 = .ok (.iaload, 1) := by decide +kernel
theorem dX6_nextKept_14 : decode cX6_nextKept 14 = .ok (.if_icmp .ge 22, 3) := by decide +kernel
theorem dX6_nextKept_17 : decode cX6_nextKept 17 = .ok (.aload_n 1, 1) := by decide +kernel
theorem dX6_nextKept_18 : decode cX6_nextKept 18 = .ok (.getfield 69, 3) := by decide +kernel
theorem dX6_nextKept_21 : decode cX6_nextKept 21 = .ok (.iload_n 2, 1) := by decide +kernel
theorem dX6_nextKept_22 : decode cX6_nextKept 22 = .ok (.aaload, 1) := by decide +kernel
theorem dX6_nextKept_23 : decode cX6_nextKept 23 = .ok (.iload 4, 2) := by decide +kernel
theorem dX6_nextKept_25 : decode cX6_nextKept 25 = .ok (.iaload, 1) := by decide +kernel
theorem dX6_nextKept_26 : decode cX6_nextKept 26 = .ok (.iconst (-1), 1) := by decide +kernel
theorem dX6_nextKept_27 : decode cX6_nextKept 27 = .ok (.if_icmp .ne 9, 3) := by decide +kernel
theorem dX6_nextKept_30 : decode cX6_nextKept 30 = .ok (.iinc 4 1, 3) := by decide +kernel
theorem dX6_nextKept_33 : decode cX6_nextKept 33 = .ok (.goto (-30), 3) := by decide +kernel
theorem dX6_nextKept_36 : decode cX6_nextKept 36 = .ok (.iload 4, 2) := by decide +kernel
theorem dX6_nextKept_38 : decode cX6_nextKept 38 = .ok (.ireturn, 1) := by decide +kernel
theorem dX6_findChanged_0 : decode cX6_findChanged 0 = .ok (.iload 4, 2) := by decide +kernel
theorem dX6_findChanged_2 : decode cX6_findChanged 2 = .ok (.iload_n 3, 1) := by decide +kernel
theorem dX6_findChanged_3 : decode cX6_findChanged 3 = .ok (.isub, 1) := by decide +kernel
theorem dX6_findChanged_4 : decode cX6_findChanged 4 = .ok (.iload 6, 2) := by decide +kernel
theorem dX6_findChanged_6 : decode cX6_findChanged 6 = .ok (.iload 5, 2) := by decide +kernel
theorem dX6_findChanged_8 : decode cX6_findChanged 8 = .ok (.isub, 1) := by decide +kernel
theorem dX6_findChanged_9 : decode cX6_findChanged 9 = .ok (.invokestatic 72, 3) := by decide +kernel
theorem dX6_findChanged_12 : decode cX6_findChanged 12 = .ok (.istore 7, 2) := by decide +kernel
theorem dX6_findChanged_14 : decode cX6_findChanged 14 = .ok (.iconst 0, 1) := by decide +kernel
theorem dX6_findChanged_15 : decode cX6_findChanged 15 = .ok (.istore 8, 2) := by decide +kernel
theorem dX6_findChanged_17 : decode cX6_findChanged 17 = .ok (.iload 8, 2) := by decide +kernel
theorem dX6_findChanged_19 : decode cX6_findChanged 19 = .ok (.iload 7, 2) := by decide +kernel
theorem dX6_findChanged_21 : decode cX6_findChanged 21 = .ok (.if_icmp .ge 72, 3) := by decide +kernel
theorem dX6_findChanged_24 : decode cX6_findChanged 24 = .ok (.iload_n 3, 1) := by decide +kernel
theorem dX6_findChanged_25 : decode cX6_findChanged 25 = .ok (.iload 8, 2) := by decide +kernel
theorem dX6_findChanged_27 : decode cX6_findChanged 27 = .ok (.iadd, 1) := by decide +kernel
theorem dX6_findChanged_28 : decode cX6_findChanged 28 = .ok (.istore 9, 2) := by decide +kernel
theorem dX6_findChanged_30 : decode cX6_findChanged 30 = .ok (.iload 5, 2) := by decide +kernel
theorem dX6_findChanged_32 : decode cX6_findChanged 32 = .ok (.iload 8, 2) := by decide +kernel
theorem dX6_findChanged_34 : decode cX6_findChanged 34 = .ok (.iadd, 1) := by decide +kernel
theorem dX6_findChanged_35 : decode cX6_findChanged 35 = .ok (.istore 10, 2) := by decide +kernel
theorem dX6_findChanged_37 : decode cX6_findChanged 37 = .ok (.aload_n 2, 1) := by decide +kernel
theorem dX6_findChanged_38 : decode cX6_findChanged 38 = .ok (.aload_n 1, 1) := by decide +kernel
theorem dX6_findChanged_39 : decode cX6_findChanged 39 = .ok (.getfield 78, 3) := by decide +kernel
theorem dX6_findChanged_42 : decode cX6_findChanged 42 = .ok (.iconst 0, 1) := by decide +kernel
theorem dX6_findChanged_43 : decode cX6_findChanged 43 = .ok (.aaload, 1) := by decide +kernel
theorem dX6_findChanged_44 : decode cX6_findChanged 44 = .ok (.iload 9, 2) := by decide +kernel
theorem dX6_findChanged_46 : decode cX6_findChanged 46 = .ok (.iaload, 1) := by decide +kernel
theorem dX6_findChanged_47 : decode cX6_findChanged 47 = .ok (.aload_n 1, 1) := by decide +kernel
theorem dX6_findChanged_48 : decode cX6_findChanged 48 = .ok (.getfield 78, 3) := by decide +kernel
theorem dX6_findChanged_51 : decode cX6_findChanged 51 = .ok (.iconst 1, 1) := by decide +kernel
theorem dX6_findChanged_52 : decode cX6_findChanged 52 = .ok (.aaload, 1) := by decide +kernel
theorem dX6_findChanged_53 : decode cX6_findChanged 53 = .ok (.iload 10, 2) := by decide +kernel
theorem dX6_findChanged_55 : decode cX6_findChanged 55 = .ok (.iaload, 1) := by decide +kernel
theorem dX6_findChanged_56 : decode cX6_findChanged 56 = .ok (.invokevirtual 81, 3) := by decide +kernel
theorem dX6_findChanged_59 : decode cX6_findChanged 59 = .ok (.ldc 87, 2) := by decide +kernel
theorem dX6_findChanged_61 : decode cX6_findChanged 61 = .ok (.fcmp .l, 1) := by decide +kernel
theorem dX6_findChanged_62 : decode cX6_findChanged 62 = .ok (.ifCond .lt 25, 3) := by decide +kernel
theorem dX6_findChanged_65 : decode cX6_findChanged 65 = .ok (.aload_n 0, 1) := by decide +kernel
theorem dX6_findChanged_66 : decode cX6_findChanged 66 = .ok (.getfield 29, 3) := by decide +kernel
theorem dX6_findChanged_69 : decode cX6_findChanged 69 = .ok (.iconst 0, 1) := by decide +kernel
theorem dX6_findChanged_70 : decode cX6_findChanged 70 = .ok (.aaload, 1) := by decide +kernel
theorem dX6_findChanged_71 : decode cX6_findChanged 71 = .ok (.iload 9, 2) := by decide +kernel
theorem dX6_findChanged_73 : decode cX6_findChanged 73 = .ok (.iload 10, 2) := by decide +kernel
theorem dX6_findChanged_75 : decode cX6_findChanged 75 = .ok (.iastore, 1) := by decide +kernel
theorem dX6_findChanged_76 : decode cX6_findChanged 76 = .ok (.aload_n 0, 1) := by decide +kernel
theorem dX6_findChanged_77 : decode cX6_findChanged 77 = .ok (.getfield 29, 3) := by decide +kernel
theorem dX6_findChanged_80 : decode cX6_findChanged 80 = .ok (.iconst 1, 1) := by decide +kernel
theorem dX6_findChanged_81 : decode cX6_findChanged 81 = .ok (.aaload, 1) := by decide +kernel
theorem dX6_findChanged_82 : decode cX6_findChanged 82 = .ok (.iload 10, 2) := by decide +kernel
theorem dX6_findChanged_84 : decode cX6_findChanged 84 = .ok (.iload 9, 2) := by decide +kernel
theorem dX6_findChanged_86 : decode cX6_findChanged 86 = .ok (.iastore, 1) := by decide +kernel
theorem dX6_findChanged_87 : decode cX6_findChanged 87 = .ok (.iinc 8 1, 3) := by decide +kernel
theorem dX6_findChanged_90 : decode cX6_findChanged 90 = .ok (.goto (-73), 3) := by decide +kernel
theorem dX6_findChanged_93 : decode cX6_findChanged 93 = .ok (.return_, 1) := by decide +kernel
theorem dX6_addDropped_0 : decode cX6_addDropped 0 = .ok (.iload_n 1, 1) := by decide +kernel
theorem dX6_addDropped_1 : decode cX6_addDropped 1 = .ok (.istore_n 3, 1) := by decide +kernel
theorem dX6_addDropped_2 : decode cX6_addDropped 2 = .ok (.iload_n 3, 1) := by decide +kernel
theorem dX6_addDropped_3 : decode cX6_addDropped 3 = .ok (.iload_n 2, 1) := by decide +kernel
theorem dX6_addDropped_4 : decode cX6_addDropped 4 = .ok (.if_icmp .ge 33, 3) := by decide +kernel
theorem dX6_addDropped_7 : decode cX6_addDropped 7 = .ok (.aload_n 0, 1) := by decide +kernel
theorem dX6_addDropped_8 : decode cX6_addDropped 8 = .ok (.getfield 29, 3) := by decide +kernel
theorem dX6_addDropped_11 : decode cX6_addDropped 11 = .ok (.iconst 0, 1) := by decide +kernel
theorem dX6_addDropped_12 : decode cX6_addDropped 12 = .ok (.aaload, 1) := by decide +kernel
theorem dX6_addDropped_13 : decode cX6_addDropped 13 = .ok (.iload_n 3, 1) := by decide +kernel
theorem dX6_addDropped_14 : decode cX6_addDropped 14 = .ok (.iaload, 1) := by decide +kernel
theorem dX6_addDropped_15 : decode cX6_addDropped 15 = .ok (.iconst (-1), 1) := by decide +kernel
theorem dX6_addDropped_16 : decode cX6_addDropped 16 = .ok (.if_icmp .ne 15, 3) := by decide +kernel
theorem dX6_addDropped_19 : decode cX6_addDropped 19 = .ok (.aload_n 0, 1) := by decide +kernel
theorem dX6_addDropped_20 : decode cX6_addDropped 20 = .ok (.iconst 1, 1) := by decide +kernel
theorem dX6_addDropped_21 : decode cX6_addDropped 21 = .ok (.iload_n 3, 1) := by decide +kernel
theorem dX6_addDropped_22 : decode cX6_addDropped 22 = .ok (.iconst (-1), 1) := by decide +kernel
theorem dX6_addDropped_23 : decode cX6_addDropped 23 = .ok (.fconst 0, 1) := by decide +kernel
theorem dX6_addDropped_24 : decode cX6_addDropped 24 = .ok (.aload_n 0, 1) := by decide +kernel
theorem dX6_addDropped_25 : decode cX6_addDropped 25 = .ok (.getfield 36, 3) := by decide +kernel
theorem dX6_addDropped_28 : decode cX6_addDropped 28 = .ok (.invokevirtual 65, 3) := by decide +kernel
theorem dX6_addDropped_31 : decode cX6_addDropped 31 = .ok (.iinc 3 1, 3) := by decide +kernel
theorem dX6_addDropped_34 : decode cX6_addDropped 34 = .ok (.goto (-32), 3) := by decide +kernel
theorem dX6_addDropped_37 : decode cX6_addDropped 37 = .ok (.return_, 1) := by decide +kernel
theorem dX6_addAdded_0 : decode cX6_addAdded 0 = .ok (.iload_n 3, 1) := by decide +kernel
theorem dX6_addAdded_1 : decode cX6_addAdded 1 = .ok (.istore 5, 2) := by decide +kernel
theorem dX6_addAdded_3 : decode cX6_addAdded 3 = .ok (.iload 5, 2) := by decide +kernel
theorem dX6_addAdded_5 : decode cX6_addAdded 5 = .ok (.iload 4, 2) := by decide +kernel
theorem dX6_addAdded_7 : decode cX6_addAdded 7 = .ok (.if_icmp .ge 93, 3) := by decide +kernel
theorem dX6_addAdded_10 : decode cX6_addAdded 10 = .ok (.aload_n 0, 1) := by decide +kernel
theorem dX6_addAdded_11 : decode cX6_addAdded 11 = .ok (.getfield 29, 3) := by decide +kernel
theorem dX6_addAdded_14 : decode cX6_addAdded 14 = .ok (.iconst 1, 1) := by decide +kernel
theorem dX6_addAdded_15 : decode cX6_addAdded 15 = .ok (.aaload, 1) := by decide +kernel
theorem dX6_addAdded_16 : decode cX6_addAdded 16 = .ok (.iload 5, 2) := by decide +kernel
theorem dX6_addAdded_18 : decode cX6_addAdded 18 = .ok (.iaload, 1) := by decide +kernel
theorem dX6_addAdded_19 : decode cX6_addAdded 19 = .ok (.istore 6, 2) := by decide +kernel
theorem dX6_addAdded_21 : decode cX6_addAdded 21 = .ok (.iload 6, 2) := by decide +kernel
theorem dX6_addAdded_23 : decode cX6_addAdded 23 = .ok (.iconst (-1), 1) := by decide +kernel
theorem dX6_addAdded_24 : decode cX6_addAdded 24 = .ok (.if_icmp .ne 19, 3) := by decide +kernel
theorem dX6_addAdded_27 : decode cX6_addAdded 27 = .ok (.aload_n 0, 1) := by decide +kernel
theorem dX6_addAdded_28 : decode cX6_addAdded 28 = .ok (.iconst 2, 1) := by decide +kernel
theorem dX6_addAdded_29 : decode cX6_addAdded 29 = .ok (.iconst (-1), 1) := by decide +kernel
theorem dX6_addAdded_30 : decode cX6_addAdded 30 = .ok (.iload 5, 2) := by decide +kernel
theorem dX6_addAdded_32 : decode cX6_addAdded 32 = .ok (.fconst 0, 1) := by decide +kernel
theorem dX6_addAdded_33 : decode cX6_addAdded 33 = .ok (.aload_n 0, 1) := by decide +kernel
theorem dX6_addAdded_34 : decode cX6_addAdded 34 = .ok (.getfield 36, 3) := by decide +kernel
theorem dX6_addAdded_37 : decode cX6_addAdded 37 = .ok (.invokevirtual 65, 3) := by decide +kernel
theorem dX6_addAdded_40 : decode cX6_addAdded 40 = .ok (.goto 54, 3) := by decide +kernel
theorem dX6_addAdded_43 : decode cX6_addAdded 43 = .ok (.aload_n 2, 1) := by decide +kernel
theorem dX6_addAdded_44 : decode cX6_addAdded 44 = .ok (.aload_n 1, 1) := by decide +kernel
theorem dX6_addAdded_45 : decode cX6_addAdded 45 = .ok (.getfield 78, 3) := by decide +kernel
theorem dX6_addAdded_48 : decode cX6_addAdded 48 = .ok (.iconst 0, 1) := by decide +kernel
theorem dX6_addAdded_49 : decode cX6_addAdded 49 = .ok (.aaload, 1) := by decide +kernel
theorem dX6_addAdded_50 : decode cX6_addAdded 50 = .ok (.iload 6, 2) := by decide +kernel
theorem dX6_addAdded_52 : decode cX6_addAdded 52 = .ok (.iaload, 1) := by decide +kernel
theorem dX6_addAdded_53 : decode cX6_addAdded 53 = .ok (.aload_n 1, 1) := by decide +kernel
theorem dX6_addAdded_54 : decode cX6_addAdded 54 = .ok (.getfield 78, 3) := by decide +kernel
theorem dX6_addAdded_57 : decode cX6_addAdded 57 = .ok (.iconst 1, 1) := by decide +kernel
theorem dX6_addAdded_58 : decode cX6_addAdded 58 = .ok (.aaload, 1) := by decide +kernel
theorem dX6_addAdded_59 : decode cX6_addAdded 59 = .ok (.iload 5, 2) := by decide +kernel
theorem dX6_addAdded_61 : decode cX6_addAdded 61 = .ok (.iaload, 1) := by decide +kernel
theorem dX6_addAdded_62 : decode cX6_addAdded 62 = .ok (.invokevirtual 81, 3) := by decide +kernel
theorem dX6_addAdded_65 : decode cX6_addAdded 65 = .ok (.fstore 7, 2) := by decide +kernel
theorem dX6_addAdded_67 : decode cX6_addAdded 67 = .ok (.aload_n 0, 1) := by decide +kernel
theorem dX6_addAdded_68 : decode cX6_addAdded 68 = .ok (.fload 7, 2) := by decide +kernel
theorem dX6_addAdded_70 : decode cX6_addAdded 70 = .ok (.ldc 88, 2) := by decide +kernel
theorem dX6_addAdded_72 : decode cX6_addAdded 72 = .ok (.fcmp .l, 1) := by decide +kernel
theorem dX6_addAdded_73 : decode cX6_addAdded 73 = .ok (.ifCond .lt 7, 3) := by decide +kernel
theorem dX6_addAdded_76 : decode cX6_addAdded 76 = .ok (.iconst 4, 1) := by decide +kernel
theorem dX6_addAdded_77 : decode cX6_addAdded 77 = .ok (.goto 4, 3) := by decide +kernel
theorem dX6_addAdded_80 : decode cX6_addAdded 80 = .ok (.iconst 3, 1) := by decide +kernel
theorem dX6_addAdded_81 : decode cX6_addAdded 81 = .ok (.iload 6, 2) := by decide +kernel
theorem dX6_addAdded_83 : decode cX6_addAdded 83 = .ok (.iload 5, 2) := by decide +kernel
theorem dX6_addAdded_85 : decode cX6_addAdded 85 = .ok (.fload 7, 2) := by decide +kernel
theorem dX6_addAdded_87 : decode cX6_addAdded 87 = .ok (.aload_n 0, 1) := by decide +kernel
theorem dX6_addAdded_88 : decode cX6_addAdded 88 = .ok (.getfield 36, 3) := by decide +kernel
theorem dX6_addAdded_91 : decode cX6_addAdded 91 = .ok (.invokevirtual 65, 3) := by decide +kernel
theorem dX6_addAdded_94 : decode cX6_addAdded 94 = .ok (.iinc 5 1, 3) := by decide +kernel
theorem dX6_addAdded_97 : decode cX6_addAdded 97 = .ok (.goto (-94), 3) := by decide +kernel
theorem dX6_addAdded_100 : decode cX6_addAdded 100 = .ok (.return_, 1) := by decide +kernel
theorem dX6_addStep_0 : decode cX6_addStep 0 = .ok (.aload_n 0, 1) := by decide +kernel
theorem dX6_addStep_1 : decode cX6_addStep 1 = .ok (.getfield 32, 3) := by decide +kernel
theorem dX6_addStep_4 : decode cX6_addStep 4 = .ok (.aload_n 0, 1) := by decide +kernel
theorem dX6_addStep_5 : decode cX6_addStep 5 = .ok (.getfield 9, 3) := by decide +kernel
theorem dX6_addStep_8 : decode cX6_addStep 8 = .ok (.arraylength, 1) := by decide +kernel
theorem dX6_addStep_9 : decode cX6_addStep 9 = .ok (.if_icmp .lt 4, 3) := by decide +kernel
theorem dX6_addStep_12 : decode cX6_addStep 12 = .ok (.return_, 1) := by decide +kernel
theorem dX6_addStep_13 : decode cX6_addStep 13 = .ok (.aload_n 0, 1) := by decide +kernel
theorem dX6_addStep_14 : decode cX6_addStep 14 = .ok (.getfield 9, 3) := by decide +kernel
theorem dX6_addStep_17 : decode cX6_addStep 17 = .ok (.aload_n 0, 1) := by decide +kernel
theorem dX6_addStep_18 : decode cX6_addStep 18 = .ok (.getfield 32, 3) := by decide +kernel
theorem dX6_addStep_21 : decode cX6_addStep 21 = .ok (.iload_n 1, 1) := by decide +kernel
theorem dX6_addStep_22 : decode cX6_addStep 22 = .ok (.iastore, 1) := by decide +kernel
theorem dX6_addStep_23 : decode cX6_addStep 23 = .ok (.aload_n 0, 1) := by decide +kernel
theorem dX6_addStep_24 : decode cX6_addStep 24 = .ok (.getfield 15, 3) := by decide +kernel
theorem dX6_addStep_27 : decode cX6_addStep 27 = .ok (.aload_n 0, 1) := by decide +kernel
end
section
theorem dX6_addStep_28 : decode cX6_addStep 28 = .ok (.getfield 32, 3) := by decide +kernel
theorem dX6_addStep_31 : decode cX6_addStep 31 = .ok (.iload_n 2, 1) := by decide +kernel
theorem dX6_addStep_32 : decode cX6_addStep 32 = .ok (.iastore, 1) := by decide +kernel
theorem dX6_addStep_33 : decode cX6_addStep 33 = .ok (.aload_n 0, 1) := by decide +kernel
theorem dX6_addStep_34 : decode cX6_addStep 34 = .ok (.getfield 18, 3) := by decide +kernel
theorem dX6_addStep_37 : decode cX6_addStep 37 = .ok (.aload_n 0, 1) := by decide +kernel
theorem dX6_addStep_38 : decode cX6_addStep 38 = .ok (.getfield 32, 3) := by decide +kernel
theorem dX6_addStep_41 : decode cX6_addStep 41 = .ok (.iload_n 3, 1) := by decide +kernel
theorem dX6_addStep_42 : decode cX6_addStep 42 = .ok (.iastore, 1) := by decide +kernel
theorem dX6_addStep_43 : decode cX6_addStep 43 = .ok (.aload_n 0, 1) := by decide +kernel
theorem dX6_addStep_44 : decode cX6_addStep 44 = .ok (.getfield 21, 3) := by decide +kernel
theorem dX6_addStep_47 : decode cX6_addStep 47 = .ok (.aload_n 0, 1) := by decide +kernel
theorem dX6_addStep_48 : decode cX6_addStep 48 = .ok (.getfield 32, 3) := by decide +kernel
theorem dX6_addStep_51 : decode cX6_addStep 51 = .ok (.fload 4, 2) := by decide +kernel
theorem dX6_addStep_53 : decode cX6_addStep 53 = .ok (.invokestatic 89, 3) := by decide +kernel
theorem dX6_addStep_56 : decode cX6_addStep 56 = .ok (.iastore, 1) := by decide +kernel
theorem dX6_addStep_57 : decode cX6_addStep 57 = .ok (.aload_n 0, 1) := by decide +kernel
theorem dX6_addStep_58 : decode cX6_addStep 58 = .ok (.getfield 24, 3) := by decide +kernel
theorem dX6_addStep_61 : decode cX6_addStep 61 = .ok (.aload_n 0, 1) := by decide +kernel
theorem dX6_addStep_62 : decode cX6_addStep 62 = .ok (.getfield 32, 3) := by decide +kernel
theorem dX6_addStep_65 : decode cX6_addStep 65 = .ok (.iload 5, 2) := by decide +kernel
theorem dX6_addStep_67 : decode cX6_addStep 67 = .ok (.iastore, 1) := by decide +kernel
theorem dX6_addStep_68 : decode cX6_addStep 68 = .ok (.aload_n 0, 1) := by decide +kernel
theorem dX6_addStep_69 : decode cX6_addStep 69 = .ok (.dup, 1) := by decide +kernel
theorem dX6_addStep_70 : decode cX6_addStep 70 = .ok (.getfield 32, 3) := by decide +kernel
theorem dX6_addStep_73 : decode cX6_addStep 73 = .ok (.iconst 1, 1) := by decide +kernel
theorem dX6_addStep_74 : decode cX6_addStep 74 = .ok (.iadd, 1) := by decide +kernel
theorem dX6_addStep_75 : decode cX6_addStep 75 = .ok (.putfield 32, 3) := by decide +kernel
theorem dX6_addStep_78 : decode cX6_addStep 78 = .ok (.return_, 1) := by decide +kernel
theorem dX7_init_0 : decode cX7_init 0 = .ok (.aload_n 0, 1) := by decide +kernel
theorem dX7_init_1 : decode cX7_init 1 = .ok (.invokespecial 3, 3) := by decide +kernel
theorem dX7_init_4 : decode cX7_init 4 = .ok (.aload_n 0, 1) := by decide +kernel
theorem dX7_init_5 : decode cX7_init 5 = .ok (.iconst 2, 1) := by decide +kernel
theorem dX7_init_6 : decode cX7_init 6 = .ok (.bipush 8, 2) := by decide +kernel
theorem dX7_init_8 : decode cX7_init 8 = .ok (.multianewarray 9 2, 4) := by decide +kernel
theorem dX7_init_12 : decode cX7_init 12 = .ok (.putfield 11, 3) := by decide +kernel
theorem dX7_init_15 : decode cX7_init 15 = .ok (.aload_n 0, 1) := by decide +kernel
theorem dX7_init_16 : decode cX7_init 16 = .ok (.iconst 2, 1) := by decide +kernel
theorem dX7_init_17 : decode cX7_init 17 = .ok (.newarray .int, 2) := by decide +kernel
theorem dX7_init_19 : decode cX7_init 19 = .ok (.putfield 16, 3) := by decide +kernel
theorem dX7_init_22 : decode cX7_init 22 = .ok (.return_, 1) := by decide +kernel
theorem dX7_has_0 : decode cX7_has 0 = .ok (.iload_n 1, 1) := by decide +kernel
theorem dX7_has_1 : decode cX7_has 1 = .ok (.invokestatic 20, 3) := by decide +kernel
theorem dX7_has_4 : decode cX7_has 4 = .ok (.ifCond .eq 21, 3) := by decide +kernel
theorem dX7_has_7 : decode cX7_has 7 = .ok (.iload_n 2, 1) := by decide +kernel
theorem dX7_has_8 : decode cX7_has 8 = .ok (.ifCond .lt 17, 3) := by decide +kernel
theorem dX7_has_11 : decode cX7_has 11 = .ok (.iload_n 2, 1) := by decide +kernel
theorem dX7_has_12 : decode cX7_has 12 = .ok (.aload_n 0, 1) := by decide +kernel
theorem dX7_has_13 : decode cX7_has 13 = .ok (.getfield 16, 3) := by decide +kernel
theorem dX7_has_16 : decode cX7_has 16 = .ok (.iload_n 1, 1) := by decide +kernel
theorem dX7_has_17 : decode cX7_has 17 = .ok (.iaload, 1) := by decide +kernel
theorem dX7_has_18 : decode cX7_has 18 = .ok (.if_icmp .ge 7, 3) := by decide +kernel
theorem dX7_has_21 : decode cX7_has 21 = .ok (.iconst 1, 1) := by decide +kernel
theorem dX7_has_22 : decode cX7_has 22 = .ok (.goto 4, 3) := by decide +kernel
theorem dX7_has_25 : decode cX7_has 25 = .ok (.iconst 0, 1) := by decide +kernel
theorem dX7_has_26 : decode cX7_has 26 = .ok (.ireturn, 1) := by decide +kernel
theorem dX7_total_0 : decode cX7_total 0 = .ok (.aload_n 0, 1) := by decide +kernel
theorem dX7_total_1 : decode cX7_total 1 = .ok (.getfield 16, 3) := by decide +kernel
theorem dX7_total_4 : decode cX7_total 4 = .ok (.iconst 0, 1) := by decide +kernel
theorem dX7_total_5 : decode cX7_total 5 = .ok (.iaload, 1) := by decide +kernel
theorem dX7_total_6 : decode cX7_total 6 = .ok (.aload_n 0, 1) := by decide +kernel
theorem dX7_total_7 : decode cX7_total 7 = .ok (.getfield 16, 3) := by decide +kernel
theorem dX7_total_10 : decode cX7_total 10 = .ok (.iconst 1, 1) := by decide +kernel
theorem dX7_total_11 : decode cX7_total 11 = .ok (.iaload, 1) := by decide +kernel
theorem dX7_total_12 : decode cX7_total 12 = .ok (.iadd, 1) := by decide +kernel
theorem dX7_total_13 : decode cX7_total 13 = .ok (.ireturn, 1) := by decide +kernel
theorem dX7_clear_0 : decode cX7_clear 0 = .ok (.aload_n 0, 1) := by decide +kernel
theorem dX7_clear_1 : decode cX7_clear 1 = .ok (.getfield 16, 3) := by decide +kernel
theorem dX7_clear_4 : decode cX7_clear 4 = .ok (.iconst 0, 1) := by decide +kernel
theorem dX7_clear_5 : decode cX7_clear 5 = .ok (.iconst 0, 1) := by decide +kernel
theorem dX7_clear_6 : decode cX7_clear 6 = .ok (.iastore, 1) := by decide +kernel
theorem dX7_clear_7 : decode cX7_clear 7 = .ok (.aload_n 0, 1) := by decide +kernel
theorem dX7_clear_8 : decode cX7_clear 8 = .ok (.getfield 16, 3) := by decide +kernel
theorem dX7_clear_11 : decode cX7_clear 11 = .ok (.iconst 1, 1) := by decide +kernel
theorem dX7_clear_12 : decode cX7_clear 12 = .ok (.iconst 0, 1) := by decide +kernel
theorem dX7_clear_13 : decode cX7_clear 13 = .ok (.iastore, 1) := by decide +kernel
theorem dX7_clear_14 : decode cX7_clear 14 = .ok (.return_, 1) := by decide +kernel
theorem dX7_copyFrom_0 : decode cX7_copyFrom 0 = .ok (.iconst 0, 1) := by decide +kernel
theorem dX7_copyFrom_1 : decode cX7_copyFrom 1 = .ok (.istore_n 2, 1) := by decide +kernel
theorem dX7_copyFrom_2 : decode cX7_copyFrom 2 = .ok (.iload_n 2, 1) := by decide +kernel
theorem dX7_copyFrom_3 : decode cX7_copyFrom 3 = .ok (.iconst 2, 1) := by decide +kernel
theorem dX7_copyFrom_4 : decode cX7_copyFrom 4 = .ok (.if_icmp .ge 40, 3) := by decide +kernel
theorem dX7_copyFrom_7 : decode cX7_copyFrom 7 = .ok (.aload_n 0, 1) := by decide +kernel
theorem dX7_copyFrom_8 : decode cX7_copyFrom 8 = .ok (.getfield 16, 3) := by decide +kernel
theorem dX7_copyFrom_11 : decode cX7_copyFrom 11 = .ok (.iload_n 2, 1) := by decide +kernel
theorem dX7_copyFrom_12 : decode cX7_copyFrom 12 = .ok (.aload_n 1, 1) := by decide +kernel
theorem dX7_copyFrom_13 : decode cX7_copyFrom 13 = .ok (.getfield 16, 3) := by decide +kernel
theorem dX7_copyFrom_16 : decode cX7_copyFrom 16 = .ok (.iload_n 2, 1) := by decide +kernel
theorem dX7_copyFrom_17 : decode cX7_copyFrom 17 = .ok (.iaload, 1) := by decide +kernel
theorem dX7_copyFrom_18 : decode cX7_copyFrom 18 = .ok (.iastore, 1) := by decide +kernel
theorem dX7_copyFrom_19 : decode cX7_copyFrom 19 = .ok (.aload_n 1, 1) := by decide +kernel
theorem dX7_copyFrom_20 : decode cX7_copyFrom 20 = .ok (.getfield 11, 3) := by decide +kernel
theorem dX7_copyFrom_23 : decode cX7_copyFrom 23 = .ok (.iload_n 2, 1) := by decide +kernel
theorem dX7_copyFrom_24 : decode cX7_copyFrom 24 = .ok (.aaload, 1) := by decide +kernel
theorem dX7_copyFrom_25 : decode cX7_copyFrom 25 = .ok (.iconst 0, 1) := by decide +kernel
theorem dX7_copyFrom_26 : decode cX7_copyFrom 26 = .ok (.aload_n 0, 1) := by decide +kernel
theorem dX7_copyFrom_27 : decode cX7_copyFrom 27 = .ok (.getfield 11, 3) := by decide +kernel
theorem dX7_copyFrom_30 : decode cX7_copyFrom 30 = .ok (.iload_n 2, 1) := by decide +kernel
theorem dX7_copyFrom_31 : decode cX7_copyFrom 31 = .ok (.aaload, 1) := by decide +kernel
theorem dX7_copyFrom_32 : decode cX7_copyFrom 32 = .ok (.iconst 0, 1) := by decide +kernel
theorem dX7_copyFrom_33 : decode cX7_copyFrom 33 = .ok (.bipush 8, 2) := by decide +kernel
theorem dX7_copyFrom_35 : decode cX7_copyFrom 35 = .ok (.invokestatic 24, 3) := by decide +kernel
theorem dX7_copyFrom_38 : decode cX7_copyFrom 38 = .ok (.iinc 2 1, 3) := by decide +kernel
theorem dX7_copyFrom_41 : decode cX7_copyFrom 41 = .ok (.goto (-39), 3) := by decide +kernel
theorem dX7_copyFrom_44 : decode cX7_copyFrom 44 = .ok (.return_, 1) := by decide +kernel
theorem dX7_appendLine_0 : decode cX7_appendLine 0 = .ok (.iload_n 2, 1) := by decide +kernel
theorem dX7_appendLine_1 : decode cX7_appendLine 1 = .ok (.ifCond .eq 15, 3) := by decide +kernel
theorem dX7_appendLine_4 : decode cX7_appendLine 4 = .ok (.aload_n 0, 1) := by decide +kernel
theorem dX7_appendLine_5 : decode cX7_appendLine 5 = .ok (.iload_n 1, 1) := by decide +kernel
theorem dX7_appendLine_6 : decode cX7_appendLine 6 = .ok (.aload_n 0, 1) := by decide +kernel
theorem dX7_appendLine_7 : decode cX7_appendLine 7 = .ok (.getfield 16, 3) := by decide +kernel
theorem dX7_appendLine_10 : decode cX7_appendLine 10 = .ok (.iload_n 1, 1) := by decide +kernel
theorem dX7_appendLine_11 : decode cX7_appendLine 11 = .ok (.iaload, 1) := by decide +kernel
theorem dX7_appendLine_12 : decode cX7_appendLine 12 = .ok (.iload_n 2, 1) := by decide +kernel
theorem dX7_appendLine_13 : decode cX7_appendLine 13 = .ok (.invokevirtual 30, 3) := by decide +kernel
theorem dX7_appendLine_16 : decode cX7_appendLine 16 = .ok (.return_, 1) := by decide +kernel
theorem dX7_insert_0 : decode cX7_insert 0 = .ok (.iload_n 1, 1) := by decide +kernel
theorem dX7_insert_1 : decode cX7_insert 1 = .ok (.invokestatic 20, 3) := by decide +kernel
theorem dX7_insert_4 : decode cX7_insert 4 = .ok (.ifCond .eq 28, 3) := by decide +kernel
theorem dX7_insert_7 : decode cX7_insert 7 = .ok (.iload_n 2, 1) := by decide +kernel
theorem dX7_insert_8 : decode cX7_insert 8 = .ok (.ifCond .lt 24, 3) := by decide +kernel
theorem dX7_insert_11 : decode cX7_insert 11 = .ok (.iload_n 2, 1) := by decide +kernel
theorem dX7_insert_12 : decode cX7_insert 12 = .ok (.aload_n 0, 1) := by decide +kernel
theorem dX7_insert_13 : decode cX7_insert 13 = .ok (.getfield 16, 3) := by decide +kernel
theorem dX7_insert_16 : decode cX7_insert 16 = .ok (.iload_n 1, 1) := by decide +kernel
theorem dX7_insert_17 : decode cX7_insert 17 = .ok (.iaload, 1) := by decide +kernel
theorem dX7_insert_18 : decode cX7_insert 18 = .ok (.if_icmp .gt 14, 3) := by decide +kernel
theorem dX7_insert_21 : decode cX7_insert 21 = .ok (.aload_n 0, 1) := by decide +kernel
theorem dX7_insert_22 : decode cX7_insert 22 = .ok (.getfield 16, 3) := by decide +kernel
theorem dX7_insert_25 : decode cX7_insert 25 = .ok (.iload_n 1, 1) := by decide +kernel
theorem dX7_insert_26 : decode cX7_insert 26 = .ok (.iaload, 1) := by decide +kernel
theorem dX7_insert_27 : decode cX7_insert 27 = .ok (.bipush 8, 2) := by decide +kernel
theorem dX7_insert_29 : decode cX7_insert 29 = .ok (.if_icmp .lt 4, 3) := by decide +kernel
theorem dX7_insert_32 : decode cX7_insert 32 = .ok (.return_, 1) := by decide +kernel
theorem dX7_insert_33 : decode cX7_insert 33 = .ok (.aload_n 0, 1) := by decide +kernel
theorem dX7_insert_34 : decode cX7_insert 34 = .ok (.getfield 11, 3) := by decide +kernel
theorem dX7_insert_37 : decode cX7_insert 37 = .ok (.iload_n 1, 1) := by decide +kernel
theorem dX7_insert_38 : decode cX7_insert 38 = .ok (.aaload, 1) := by decide +kernel
theorem dX7_insert_39 : decode cX7_insert 39 = .ok (.astore 4, 2) := by decide +kernel
theorem dX7_insert_41 : decode cX7_insert 41 = .ok (.aload_n 0, 1) := by decide +kernel
theorem dX7_insert_42 : decode cX7_insert 42 = .ok (.getfield 16, 3) := by decide +kernel
theorem dX7_insert_45 : decode cX7_insert 45 = .ok (.iload_n 1, 1) := by decide +kernel
theorem dX7_insert_46 : decode cX7_insert 46 = .ok (.iaload, 1) := by decide +kernel
theorem dX7_insert_47 : decode cX7_insert 47 = .ok (.istore 5, 2) := by decide +kernel
theorem dX7_insert_49 : decode cX7_insert 49 = .ok (.iload 5, 2) := by decide +kernel
theorem dX7_insert_51 : decode cX7_insert 51 = .ok (.iload_n 2, 1) := by decide +kernel
theorem dX7_insert_52 : decode cX7_insert 52 = .ok (.if_icmp .le 21, 3) := by decide +kernel
theorem dX7_insert_55 : decode cX7_insert 55 = .ok (.aload 4, 2) := by decide +kernel
theorem dX7_insert_57 : decode cX7_insert 57 = .ok (.iload 5, 2) := by decide +kernel
theorem dX7_insert_59 : decode cX7_insert 59 = .ok (.aload 4, 2) := by decide +kernel
theorem dX7_insert_61 : decode cX7_insert 61 = .ok (.iload 5, 2) := by decide +kernel
theorem dX7_insert_63 : decode cX7_insert 63 = .ok (.iconst 1, 1) := by decide +kernel
theorem dX7_insert_64 : decode cX7_insert 64 = .ok (.isub, 1) := by decide +kernel
theorem dX7_insert_65 : decode cX7_insert 65 = .ok (.iaload, 1) := by decide +kernel
theorem dX7_insert_66 : decode cX7_insert 66 = .ok (.iastore, 1) := by decide +kernel
theorem dX7_insert_67 : decode cX7_insert 67 = .ok (.iinc 5 (-1), 3) := by decide +kernel
theorem dX7_insert_70 : decode cX7_insert 70 = .ok (.goto (-21), 3) := by decide +kernel
theorem dX7_insert_73 : decode cX7_insert 73 = .ok (.aload 4, 2) := by decide +kernel
theorem dX7_insert_75 : decode cX7_insert 75 = .ok (.iload_n 2, 1) := by decide +kernel
theorem dX7_insert_76 : decode cX7_insert 76 = .ok (.iload_n 3, 1) := by decide +kernel
theorem dX7_insert_77 : decode cX7_insert 77 = .ok (.iastore, 1) := by decide +kernel
theorem dX7_insert_78 : decode cX7_insert 78 = .ok (.aload_n 0, 1) := by decide +kernel
theorem dX7_insert_79 : decode cX7_insert 79 = .ok (.getfield 16, 3) := by decide +kernel
theorem dX7_insert_82 : decode cX7_insert 82 = .ok (.iload_n 1, 1) := by decide +kernel
theorem dX7_insert_83 : decode cX7_insert 83 = .ok (.dup2, 1) := by decide +kernel
theorem dX7_insert_84 : decode cX7_insert 84 = .ok (.iaload, 1) := by decide +kernel
theorem dX7_insert_85 : decode cX7_insert 85 = .ok (.iconst 1, 1) := by decide +kernel
theorem dX7_insert_86 : decode cX7_insert 86 = .ok (.iadd, 1) := by decide +kernel
theorem dX7_insert_87 : decode cX7_insert 87 = .ok (.iastore, 1) := by decide +kernel
theorem dX7_insert_88 : decode cX7_insert 88 = .ok (.return_, 1) := by decide +kernel
theorem dX7_remove_0 : decode cX7_remove 0 = .ok (.aload_n 0, 1) := by decide +kernel
theorem dX7_remove_1 : decode cX7_remove 1 = .ok (.iload_n 1, 1) := by decide +kernel
theorem dX7_remove_2 : decode cX7_remove 2 = .ok (.iload_n 2, 1) := by decide +kernel
theorem dX7_remove_3 : decode cX7_remove 3 = .ok (.invokevirtual 34, 3) := by decide +kernel
theorem dX7_remove_6 : decode cX7_remove 6 = .ok (.ifCond .ne 4, 3) := by decide +kernel
theorem dX7_remove_9 : decode cX7_remove 9 = .ok (.return_, 1) := by decide +kernel
theorem dX7_remove_10 : decode cX7_remove 10 = .ok (.aload_n 0, 1) := by decide +kernel
theorem dX7_remove_11 : decode cX7_remove 11 = .ok (.getfield 11, 3) := by decide +kernel
theorem dX7_remove_14 : decode cX7_remove 14 = .ok (.iload_n 1, 1) := by decide +kernel
theorem dX7_remove_15 : decode cX7_remove 15 = .ok (.aaload, 1) := by decide +kernel
theorem dX7_remove_16 : decode cX7_remove 16 = .ok (.astore_n 3, 1) := by decide +kernel
theorem dX7_remove_17 : decode cX7_remove 17 = .ok (.aload_n 0, 1) := by decide +kernel
theorem dX7_remove_18 : decode cX7_remove 18 = .ok (.getfield 16, 3) := by decide +kernel
theorem dX7_remove_21 : decode cX7_remove 21 = .ok (.iload_n 1, 1) := by decide +kernel
theorem dX7_remove_22 : decode cX7_remove 22 = .ok (.dup2, 1) := by decide +kernel
theorem dX7_remove_23 : decode cX7_remove 23 = .ok (.iaload, 1) := by decide +kernel
theorem dX7_remove_24 : decode cX7_remove 24 = .ok (.iconst 1, 1) := by decide +kernel
theorem dX7_remove_25 : decode cX7_remove 25 = .ok (.isub, 1) := by decide +kernel
theorem dX7_remove_26 : decode cX7_remove 26 = .ok (.iastore, 1) := by decide +kernel
theorem dX7_remove_27 : decode cX7_remove 27 = .ok (.iload_n 2, 1) := by decide +kernel
theorem dX7_remove_28 : decode cX7_remove 28 = .ok (.istore 4, 2) := by decide +kernel
theorem dX7_remove_30 : decode cX7_remove 30 = .ok (.iload 4, 2) := by decide +kernel
theorem dX7_remove_32 : decode cX7_remove 32 = .ok (.aload_n 0, 1) := by decide +kernel
theorem dX7_remove_33 : decode cX7_remove 33 = .ok (.getfield 16, 3) := by decide +kernel
theorem dX7_remove_36 : decode cX7_remove 36 = .ok (.iload_n 1, 1) := by decide +kernel
theorem dX7_remove_37 : decode cX7_remove 37 = .ok (.iaload, 1) := by decide +kernel
theorem dX7_remove_38 : decode cX7_remove 38 = .ok (.if_icmp .ge 19, 3) := by decide +kernel
theorem dX7_remove_41 : decode cX7_remove 41 = .ok (.aload_n 3, 1) := by decide +kernel
theorem dX7_remove_42 : decode cX7_remove 42 = .ok (.iload 4, 2) := by decide +kernel
theorem dX7_remove_44 : decode cX7_remove 44 = .ok (.aload_n 3, 1) := by decide +kernel
theorem dX7_remove_45 : decode cX7_remove 45 = .ok (.iload 4, 2) := by decide +kernel
theorem dX7_remove_47 : decode cX7_remove 47 = .ok (.iconst 1, 1) := by decide +kernel
theorem dX7_remove_48 : decode cX7_remove 48 = .ok (.iadd, 1) := by decide +kernel
theorem dX7_remove_49 : decode cX7_remove 49 = .ok (.iaload, 1) := by decide +kernel
theorem dX7_remove_50 : decode cX7_remove 50 = .ok (.iastore, 1) := by decide +kernel
theorem dX7_remove_51 : decode cX7_remove 51 = .ok (.iinc 4 1, 3) := by decide +kernel
theorem dX7_remove_54 : decode cX7_remove 54 = .ok (.goto (-24), 3) := by decide +kernel
theorem dX7_remove_57 : decode cX7_remove 57 = .ok (.return_, 1) := by decide +kernel
theorem dX7_exchangeLines_0 : decode cX7_exchangeLines 0 = .ok (.aload_n 0, 1) := by decide +kernel
theorem dX7_exchangeLines_1 : decode cX7_exchangeLines 1 = .ok (.iload_n 1, 1) := by decide +kernel
theorem dX7_exchangeLines_2 : decode cX7_exchangeLines 2 = .ok (.iload_n 2, 1) := by decide +kernel
theorem dX7_exchangeLines_3 : decode cX7_exchangeLines 3 = .ok (.invokevirtual 34, 3) := by decide +kernel
theorem dX7_exchangeLines_6 : decode cX7_exchangeLines 6 = .ok (.ifCond .eq 12, 3) := by decide +kernel
theorem dX7_exchangeLines_9 : decode cX7_exchangeLines 9 = .ok (.aload_n 0, 1) := by decide +kernel
theorem dX7_exchangeLines_10 : decode cX7_exchangeLines 10 = .ok (.iload_n 1, 1) := by decide +kernel
theorem dX7_exchangeLines_11 : decode cX7_exchangeLines 11 = .ok (.iload_n 3, 1) := by decide +kernel
theorem dX7_exchangeLines_12 : decode cX7_exchangeLines 12 = .ok (.invokevirtual 34, 3) := by decide +kernel
theorem dX7_exchangeLines_15 : decode cX7_exchangeLines 15 = .ok (.ifCond .ne 4, 3) := by decide +kernel
theorem dX7_exchangeLines_18 : decode cX7_exchangeLines 18 = .ok (.return_, 1) := by decide +kernel
theorem dX7_exchangeLines_19 : decode cX7_exchangeLines 19 = .ok (.aload_n 0, 1) := by decide +kernel
theorem dX7_exchangeLines_20 : decode cX7_exchangeLines 20 = .ok (.getfield 11, 3) := by decide +kernel
theorem dX7_exchangeLines_23 : decode cX7_exchangeLines 23 = .ok (.iload_n 1, 1) := by decide +kernel
theorem dX7_exchangeLines_24 : decode cX7_exchangeLines 24 = .ok (.aaload, 1) := by decide +kernel
theorem dX7_exchangeLines_25 : decode cX7_exchangeLines 25 = .ok (.iload_n 2, 1) := by decide +kernel
theorem dX7_exchangeLines_26 : decode cX7_exchangeLines 26 = .ok (.iaload, 1) := by decide +kernel
theorem dX7_exchangeLines_27 : decode cX7_exchangeLines 27 = .ok (.istore 4, 2) := by decide +kernel
theorem dX7_exchangeLines_29 : decode cX7_exchangeLines 29 = .ok (.aload_n 0, 1) := by decide +kernel
theorem dX7_exchangeLines_30 : decode cX7_exchangeLines 30 = .ok (.getfield 11, 3) := by decide +kernel
theorem dX7_exchangeLines_33 : decode cX7_exchangeLines 33 = .ok (.iload_n 1, 1) := by decide +kernel
theorem dX7_exchangeLines_34 : decode cX7_exchangeLines 34 = .ok (.aaload, 1) := by decide +kernel
theorem dX7_exchangeLines_35 : decode cX7_exchangeLines 35 = .ok (.iload_n 2, 1) := by decide +kernel
theorem dX7_exchangeLines_36 : decode cX7_exchangeLines 36 = .ok (.aload_n 0, 1) := by decide +kernel
theorem dX7_exchangeLines_37 : decode cX7_exchangeLines 37 = .ok (.getfield 11, 3) := by decide +kernel
theorem dX7_exchangeLines_40 : decode cX7_exchangeLines 40 = .ok (.iload_n 1, 1) := by decide +kernel
theorem dX7_exchangeLines_41 : decode cX7_exchangeLines 41 = .ok (.aaload, 1) := by decide +kernel
theorem dX7_exchangeLines_42 : decode cX7_exchangeLines 42 = .ok (.iload_n 3, 1) := by decide +kernel
theorem dX7_exchangeLines_43 : decode cX7_exchangeLines 43 = .ok (.iaload, 1) := by decide +kernel
theorem dX7_exchangeLines_44 : decode cX7_exchangeLines 44 = .ok (.iastore, 1) := by decide +kernel
theorem dX7_exchangeLines_45 : decode cX7_exchangeLines 45 = .ok (.aload_n 0, 1) := by decide +kernel
theorem dX7_exchangeLines_46 : decode cX7_exchangeLines 46 = .ok (.getfield 11, 3) := by decide +kernel
theorem dX7_exchangeLines_49 : decode cX7_exchangeLines 49 = .ok (.iload_n 1, 1) := by decide +kernel
theorem dX7_exchangeLines_50 : decode cX7_exchangeLines 50 = .ok (.aaload, 1) := by decide +kernel
theorem dX7_exchangeLines_51 : decode cX7_exchangeLines 51 = .ok (.iload_n 3, 1) := by decide +kernel
theorem dX7_exchangeLines_52 : decode cX7_exchangeLines 52 = .ok (.iload 4, 2) := by decide +kernel
theorem dX7_exchangeLines_54 : decode cX7_exchangeLines 54 = .ok (.iastore, 1) := by decide +kernel
theorem dX7_exchangeLines_55 : decode cX7_exchangeLines 55 = .ok (.return_, 1) := by decide +kernel
theorem dX7_exchangeSides_0 : decode cX7_exchangeSides 0 = .ok (.iconst 0, 1) := by decide +kernel
theorem dX7_exchangeSides_1 : decode cX7_exchangeSides 1 = .ok (.istore_n 1, 1) := by decide +kernel
theorem dX7_exchangeSides_2 : decode cX7_exchangeSides 2 = .ok (.iload_n 1, 1) := by decide +kernel
theorem dX7_exchangeSides_3 : decode cX7_exchangeSides 3 = .ok (.bipush 8, 2) := by decide +kernel
theorem dX7_exchangeSides_5 : decode cX7_exchangeSides 5 = .ok (.if_icmp .ge 43, 3) := by decide +kernel
theorem dX7_exchangeSides_8 : decode cX7_exchangeSides 8 = .ok (.aload_n 0, 1) := by decide +kernel
theorem dX7_exchangeSides_9 : decode cX7_exchangeSides 9 = .ok (.getfield 11, 3) := by decide +kernel
theorem dX7_exchangeSides_12 : decode cX7_exchangeSides 12 = .ok (.iconst 0, 1) := by decide +kernel
theorem dX7_exchangeSides_13 : decode cX7_exchangeSides 13 = .ok (.aaload, 1) := by decide +kernel
theorem dX7_exchangeSides_14 : decode cX7_exchangeSides 14 = .ok (.iload_n 1, 1) := by decide +kernel
theorem dX7_exchangeSides_15 : decode cX7_exchangeSides 15 = .ok (.iaload, 1) := by decide +kernel
theorem dX7_exchangeSides_16 : decode cX7_exchangeSides 16 = .ok (.istore_n 2, 1) := by decide +kernel
theorem dX7_exchangeSides_17 : decode cX7_exchangeSides 17 = .ok (.aload_n 0, 1) := by decide +kernel
theorem dX7_exchangeSides_18 : decode cX7_exchangeSides 18 = .ok (.getfield 11, 3) := by decide +kernel
theorem dX7_exchangeSides_21 : decode cX7_exchangeSides 21 = .ok (.iconst 0, 1) := by decide +kernel
theorem dX7_exchangeSides_22 : decode cX7_exchangeSides 22 = .ok (.aaload, 1) := by decide +kernel
theorem dX7_exchangeSides_23 : decode cX7_exchangeSides 23 = .ok (.iload_n 1, 1) := by decide +kernel
theorem dX7_exchangeSides_24 : decode cX7_exchangeSides 24 = .ok (.aload_n 0, 1) := by decide +kernel
theorem dX7_exchangeSides_25 : decode cX7_exchangeSides 25 = .ok (.getfield 11, 3) := by decide +kernel
theorem dX7_exchangeSides_28 : decode cX7_exchangeSides 28 = .ok (.iconst 1, 1) := by decide +kernel
theorem dX7_exchangeSides_29 : decode cX7_exchangeSides 29 = .ok (.aaload, 1) := by decide +kernel
theorem dX7_exchangeSides_30 : decode cX7_exchangeSides 30 = .ok (.iload_n 1, 1) := by decide +kernel
theorem dX7_exchangeSides_31 : decode cX7_exchangeSides 31 = .ok (.iaload, 1) := by decide +kernel
theorem dX7_exchangeSides_32 : decode cX7_exchangeSides 32 = .ok (.iastore, 1) := by decide +kernel
theorem dX7_exchangeSides_33 : decode cX7_exchangeSides 33 = .ok (.aload_n 0, 1) := by decide +kernel
theorem dX7_exchangeSides_34 : decode cX7_exchangeSides 34 = .ok (.getfield 11, 3) := by decide +kernel
theorem dX7_exchangeSides_37 : decode cX7_exchangeSides 37 = .ok (.iconst 1, 1) := by decide +kernel
theorem dX7_exchangeSides_38 : decode cX7_exchangeSides 38 = .ok (.aaload, 1) := by decide +kernel
theorem dX7_exchangeSides_39 : decode cX7_exchangeSides 39 = .ok (.iload_n 1, 1) := by decide +kernel
theorem dX7_exchangeSides_40 : decode cX7_exchangeSides 40 = .ok (.iload_n 2, 1) := by decide +kernel
theorem dX7_exchangeSides_41 : decode cX7_exchangeSides 41 = .ok (.iastore, 1) := by decide +kernel
theorem dX7_exchangeSides_42 : decode cX7_exchangeSides 42 = .ok (.iinc 1 1, 3) := by decide +kernel
theorem dX7_exchangeSides_45 : decode cX7_exchangeSides 45 = .ok (.goto (-43), 3) := by decide +kernel
theorem dX7_exchangeSides_48 : decode cX7_exchangeSides 48 = .ok (.aload_n 0, 1) := by decide +kernel
theorem dX7_exchangeSides_49 : decode cX7_exchangeSides 49 = .ok (.getfield 16, 3) := by decide +kernel
theorem dX7_exchangeSides_52 : decode cX7_exchangeSides 52 = .ok (.iconst 0, 1) := by decide +kernel
theorem dX7_exchangeSides_53 : decode cX7_exchangeSides 53 = .ok (.iaload, 1) := by decide +kernel
theorem dX7_exchangeSides_54 : decode cX7_exchangeSides 54 = .ok (.istore_n 1, 1) := by decide +kernel
theorem dX7_exchangeSides_55 : decode cX7_exchangeSides 55 = .ok (.aload_n 0, 1) := by decide +kernel
theorem dX7_exchangeSides_56 : decode cX7_exchangeSides 56 = .ok (.getfield 16, 3) := by decide +kernel
theorem dX7_exchangeSides_59 : decode cX7_exchangeSides 59 = .ok (.iconst 0, 1) := by decide +kernel
theorem dX7_exchangeSides_60 : decode cX7_exchangeSides 60 = .ok (.aload_n 0, 1) := by decide +kernel
theorem dX7_exchangeSides_61 : decode cX7_exchangeSides 61 = .ok (.getfield 16, 3) := by decide +kernel
theorem dX7_exchangeSides_64 : decode cX7_exchangeSides 64 = .ok (.iconst 1, 1) := by decide +kernel
theorem dX7_exchangeSides_65 : decode cX7_exchangeSides 65 = .ok (.iaload, 1) := by decide +kernel
theorem dX7_exchangeSides_66 : decode cX7_exchangeSides 66 = .ok (.iastore, 1) := by decide +kernel
theorem dX7_exchangeSides_67 : decode cX7_exchangeSides 67 = .ok (.aload_n 0, 1) := by decide +kernel
theorem dX7_exchangeSides_68 : decode cX7_exchangeSides 68 = .ok (.getfield 16, 3) := by decide +kernel
theorem dX7_exchangeSides_71 : decode cX7_exchangeSides 71 = .ok (.iconst 1, 1) := by decide +kernel
theorem dX7_exchangeSides_72 : decode cX7_exchangeSides 72 = .ok (.iload_n 1, 1) := by decide +kernel
theorem dX7_exchangeSides_73 : decode cX7_exchangeSides 73 = .ok (.iastore, 1) := by decide +kernel
theorem dX7_exchangeSides_74 : decode cX7_exchangeSides 74 = .ok (.return_, 1) := by decide +kernel
theorem dX8_init_0 : decode cX8_init 0 = .ok (.aload_n 0, 1) := by decide +kernel
theorem dX8_init_1 : decode cX8_init 1 = .ok (.invokespecial 1, 3) := by decide +kernel
theorem dX8_init_4 : decode cX8_init 4 = .ok (.aload_n 0, 1) := by decide +kernel
theorem dX8_init_5 : decode cX8_init 5 = .ok (.new 7, 3) := by decide +kernel
theorem dX8_init_8 : decode cX8_init 8 = .ok (.dup, 1) := by decide +kernel
theorem dX8_init_9 : decode cX8_init 9 = .ok (.invokespecial 9, 3) := by decide +kernel
theorem dX8_init_12 : decode cX8_init 12 = .ok (.putfield 10, 3) := by decide +kernel
theorem dX8_init_15 : decode cX8_init 15 = .ok (.aload_n 0, 1) := by decide +kernel
theorem dX8_init_16 : decode cX8_init 16 = .ok (.new 16, 3) := by decide +kernel
theorem dX8_init_19 : decode cX8_init 19 = .ok (.dup, 1) := by decide +kernel
theorem dX8_init_20 : decode cX8_init 20 = .ok (.invokespecial 18, 3) := by decide +kernel
theorem dX8_init_23 : decode cX8_init 23 = .ok (.putfield 19, 3) := by decide +kernel
theorem dX8_init_26 : decode cX8_init 26 = .ok (.aload_n 0, 1) := by decide +kernel
theorem dX8_init_27 : decode cX8_init 27 = .ok (.aload_n 0, 1) := by decide +kernel
theorem dX8_init_28 : decode cX8_init 28 = .ok (.getfield 19, 3) := by decide +kernel
theorem dX8_init_31 : decode cX8_init 31 = .ok (.getfield 23, 3) := by decide +kernel
theorem dX8_init_34 : decode cX8_init 34 = .ok (.putfield 27, 3) := by decide +kernel
theorem dX8_init_37 : decode cX8_init 37 = .ok (.aload_n 0, 1) := by decide +kernel
theorem dX8_init_38 : decode cX8_init 38 = .ok (.new 16, 3) := by decide +kernel
theorem dX8_init_41 : decode cX8_init 41 = .ok (.dup, 1) := by decide +kernel
theorem dX8_init_42 : decode cX8_init 42 = .ok (.invokespecial 18, 3) := by decide +kernel
theorem dX8_init_45 : decode cX8_init 45 = .ok (.putfield 28, 3) := by decide +kernel
theorem dX8_init_48 : decode cX8_init 48 = .ok (.aload_n 0, 1) := by decide +kernel
theorem dX8_init_49 : decode cX8_init 49 = .ok (.new 31, 3) := by decide +kernel
theorem dX8_init_52 : decode cX8_init 52 = .ok (.dup, 1) := by decide +kernel
theorem dX8_init_53 : decode cX8_init 53 = .ok (.invokespecial 33, 3) := by decide +kernel
theorem dX8_init_56 : decode cX8_init 56 = .ok (.putfield 34, 3) := by decide +kernel
theorem dX8_init_59 : decode cX8_init 59 = .ok (.aload_n 0, 1) := by decide +kernel
theorem dX8_init_60 : decode cX8_init 60 = .ok (.new 37, 3) := by decide +kernel
theorem dX8_init_63 : decode cX8_init 63 = .ok (.dup, 1) := by decide +kernel
theorem dX8_init_64 : decode cX8_init 64 = .ok (.invokespecial 39, 3) := by decide +kernel
theorem dX8_init_67 : decode cX8_init 67 = .ok (.putfield 40, 3) := by decide +kernel
theorem dX8_init_70 : decode cX8_init 70 = .ok (.aload_n 0, 1) := by decide +kernel
theorem dX8_init_71 : decode cX8_init 71 = .ok (.new 44, 3) := by decide +kernel
theorem dX8_init_74 : decode cX8_init 74 = .ok (.dup, 1) := by decide +kernel
theorem dX8_init_75 : decode cX8_init 75 = .ok (.invokespecial 46, 3) := by decide +kernel
theorem dX8_init_78 : decode cX8_init 78 = .ok (.putfield 47, 3) := by decide +kernel
theorem dX8_init_81 : decode cX8_init 81 = .ok (.aload_n 0, 1) := by decide +kernel
theorem dX8_init_82 : decode cX8_init 82 = .ok (.new 51, 3) := by decide +kernel
theorem dX8_init_85 : decode cX8_init 85 = .ok (.dup, 1) := by decide +kernel
theorem dX8_init_86 : decode cX8_init 86 = .ok (.invokespecial 53, 3) := by decide +kernel
theorem dX8_init_89 : decode cX8_init 89 = .ok (.putfield 54, 3) := by decide +kernel
theorem dX8_init_92 : decode cX8_init 92 = .ok (.aload_n 0, 1) := by decide +kernel
theorem dX8_init_93 : decode cX8_init 93 = .ok (.iconst 0, 1) := by decide +kernel
theorem dX8_init_94 : decode cX8_init 94 = .ok (.putfield 58, 3) := by decide +kernel
theorem dX8_init_97 : decode cX8_init 97 = .ok (.aload_n 0, 1) := by decide +kernel
theorem dX8_init_98 : decode cX8_init 98 = .ok (.iconst 0, 1) := by decide +kernel
theorem dX8_init_99 : decode cX8_init 99 = .ok (.putfield 62, 3) := by decide +kernel
theorem dX8_init_102 : decode cX8_init 102 = .ok (.aload_n 0, 1) := by decide +kernel
theorem dX8_init_103 : decode cX8_init 103 = .ok (.iconst 0, 1) := by decide +kernel
theorem dX8_init_104 : decode cX8_init 104 = .ok (.putfield 65, 3) := by decide +kernel
theorem dX8_init_107 : decode cX8_init 107 = .ok (.return_, 1) := by decide +kernel
theorem dX8_letter_0 : decode cX8_letter 0 = .ok (.iload_n 1, 1) := by decide +kernel
theorem dX8_letter_1 : decode cX8_letter 1 = .ok (.iconst 1, 1) := by decide +kernel
theorem dX8_letter_2 : decode cX8_letter 2 = .ok (.if_icmp .lt 9, 3) := by decide +kernel
theorem dX8_letter_5 : decode cX8_letter 5 = .ok (.iload_n 1, 1) := by decide +kernel
theorem dX8_letter_6 : decode cX8_letter 6 = .ok (.bipush 126, 2) := by decide +kernel
theorem dX8_letter_8 : decode cX8_letter 8 = .ok (.if_icmp .le 6, 3) := by decide +kernel
theorem dX8_letter_11 : decode cX8_letter 11 = .ok (.bipush (-102), 2) := by decide +kernel
theorem dX8_letter_13 : decode cX8_letter 13 = .ok (.ireturn, 1) := by decide +kernel
theorem dX8_letter_14 : decode cX8_letter 14 = .ok (.aload_n 0, 1) := by decide +kernel
theorem dX8_letter_15 : decode cX8_letter 15 = .ok (.getfield 10, 3) := by decide +kernel
theorem dX8_letter_18 : decode cX8_letter 18 = .ok (.iload_n 1, 1) := by decide +kernel
theorem dX8_letter_19 : decode cX8_letter 19 = .ok (.invokevirtual 69, 3) := by decide +kernel
theorem dX8_letter_22 : decode cX8_letter 22 = .ok (.ifCond .eq 13, 3) := by decide +kernel
theorem dX8_letter_25 : decode cX8_letter 25 = .ok (.aload_n 0, 1) := by decide +kernel
theorem dX8_letter_26 : decode cX8_letter 26 = .ok (.getfield 10, 3) := by decide +kernel
theorem dX8_letter_29 : decode cX8_letter 29 = .ok (.getfield 73, 3) := by decide +kernel
theorem dX8_letter_32 : decode cX8_letter 32 = .ok (.goto 5, 3) := by decide +kernel
theorem dX8_letter_35 : decode cX8_letter 35 = .ok (.bipush (-104), 2) := by decide +kernel
theorem dX8_letter_37 : decode cX8_letter 37 = .ok (.ireturn, 1) := by decide +kernel
theorem dX8_blank_0 : decode cX8_blank 0 = .ok (.aload_n 0, 1) := by decide +kernel
theorem dX8_blank_1 : decode cX8_blank 1 = .ok (.getfield 10, 3) := by decide +kernel
theorem dX8_blank_4 : decode cX8_blank 4 = .ok (.getfield 73, 3) := by decide +kernel
theorem dX8_blank_7 : decode cX8_blank 7 = .ok (.istore_n 1, 1) := by decide +kernel
theorem dX8_blank_8 : decode cX8_blank 8 = .ok (.aload_n 0, 1) := by decide +kernel
theorem dX8_blank_9 : decode cX8_blank 9 = .ok (.getfield 10, 3) := by decide +kernel
theorem dX8_blank_12 : decode cX8_blank 12 = .ok (.iconst 0, 1) := by decide +kernel
theorem dX8_blank_13 : decode cX8_blank 13 = .ok (.putfield 73, 3) := by decide +kernel
theorem dX8_blank_16 : decode cX8_blank 16 = .ok (.iload_n 1, 1) := by decide +kernel
theorem dX8_blank_17 : decode cX8_blank 17 = .ok (.ireturn, 1) := by decide +kernel
theorem dX8_fault_0 : decode cX8_fault 0 = .ok (.aload_n 0, 1) := by decide +kernel
theorem dX8_fault_1 : decode cX8_fault 1 = .ok (.getfield 10, 3) := by decide +kernel
theorem dX8_fault_4 : decode cX8_fault 4 = .ok (.invokevirtual 76, 3) := by decide +kernel
theorem dX8_fault_7 : decode cX8_fault 7 = .ok (.ireturn, 1) := by decide +kernel
theorem dX8_text_0 : decode cX8_text 0 = .ok (.aload_n 0, 1) := by decide +kernel
theorem dX8_text_1 : decode cX8_text 1 = .ok (.getfield 10, 3) := by decide +kernel
theorem dX8_text_4 : decode cX8_text 4 = .ok (.invokevirtual 80, 3) := by decide +kernel
theorem dX8_text_7 : decode cX8_text 7 = .ok (.ifCond .ne 6, 3) := by decide +kernel
theorem dX8_text_10 : decode cX8_text 10 = .ok (.bipush (-103), 2) := by decide +kernel
theorem dX8_text_12 : decode cX8_text 12 = .ok (.ireturn, 1) := by decide +kernel
theorem dX8_text_13 : decode cX8_text 13 = .ok (.aload_n 0, 1) := by decide +kernel
theorem dX8_text_14 : decode cX8_text 14 = .ok (.getfield 10, 3) := by decide +kernel
theorem dX8_text_17 : decode cX8_text 17 = .ok (.aload_n 0, 1) := by decide +kernel
theorem dX8_text_18 : decode cX8_text 18 = .ok (.getfield 27, 3) := by decide +kernel
theorem dX8_text_21 : decode cX8_text 21 = .ok (.invokevirtual 84, 3) := by decide +kernel
theorem dX8_text_24 : decode cX8_text 24 = .ok (.aload_n 0, 1) := by decide +kernel
theorem dX8_text_25 : decode cX8_text 25 = .ok (.getfield 10, 3) := by decide +kernel
theorem dX8_text_28 : decode cX8_text 28 = .ok (.iconst 0, 1) := by decide +kernel
theorem dX8_text_29 : decode cX8_text 29 = .ok (.putfield 73, 3) := by decide +kernel
theorem dX8_text_32 : decode cX8_text 32 = .ok (.aload_n 0, 1) := by decide +kernel
theorem dX8_text_33 : decode cX8_text 33 = .ok (.iconst 1, 1) := by decide +kernel
theorem dX8_text_34 : decode cX8_text 34 = .ok (.putfield 58, 3) := by decide +kernel
theorem dX8_text_37 : decode cX8_text 37 = .ok (.aload_n 0, 1) := by decide +kernel
theorem dX8_text_38 : decode cX8_text 38 = .ok (.iconst 0, 1) := by decide +kernel
theorem dX8_text_39 : decode cX8_text 39 = .ok (.putfield 62, 3) := by decide +kernel
theorem dX8_text_42 : decode cX8_text 42 = .ok (.aload_n 0, 1) := by decide +kernel
theorem dX8_text_43 : decode cX8_text 43 = .ok (.dup, 1) := by decide +kernel
theorem dX8_text_44 : decode cX8_text 44 = .ok (.getfield 65, 3) := by decide +kernel
theorem dX8_text_47 : decode cX8_text 47 = .ok (.iconst 1, 1) := by decide +kernel
theorem dX8_text_48 : decode cX8_text 48 = .ok (.iadd, 1) := by decide +kernel
theorem dX8_text_49 : decode cX8_text 49 = .ok (.putfield 65, 3) := by decide +kernel
theorem dX8_text_52 : decode cX8_text 52 = .ok (.aload_n 0, 1) := by decide +kernel
theorem dX8_text_53 : decode cX8_text 53 = .ok (.invokevirtual 88, 3) := by decide +kernel
theorem dX8_text_56 : decode cX8_text 56 = .ok (.pop, 1) := by decide +kernel
theorem dX8_text_57 : decode cX8_text 57 = .ok (.aload_n 0, 1) := by decide +kernel
theorem dX8_text_58 : decode cX8_text 58 = .ok (.getfield 27, 3) := by decide +kernel
theorem dX8_text_61 : decode cX8_text 61 = .ok (.invokevirtual 91, 3) := by decide +kernel
theorem dX8_text_64 : decode cX8_text 64 = .ok (.ireturn, 1) := by decide +kernel
theorem dX8_line_0 : decode cX8_line 0 = .ok (.aload_n 0, 1) := by decide +kernel
theorem dX8_line_1 : decode cX8_line 1 = .ok (.getfield 27, 3) := by decide +kernel
theorem dX8_line_4 : decode cX8_line 4 = .ok (.iload_n 1, 1) := by decide +kernel
theorem dX8_line_5 : decode cX8_line 5 = .ok (.iload_n 2, 1) := by decide +kernel
theorem dX8_line_6 : decode cX8_line 6 = .ok (.invokevirtual 94, 3) := by decide +kernel
theorem dX8_line_9 : decode cX8_line 9 = .ok (.ifCond .ne 6, 3) := by decide +kernel
theorem dX8_line_12 : decode cX8_line 12 = .ok (.bipush (-101), 2) := by decide +kernel
theorem dX8_line_14 : decode cX8_line 14 = .ok (.ireturn, 1) := by decide +kernel
theorem dX8_line_15 : decode cX8_line 15 = .ok (.iload_n 3, 1) := by decide +kernel
theorem dX8_line_16 : decode cX8_line 16 = .ok (.ifCond .lt 9, 3) := by decide +kernel
theorem dX8_line_19 : decode cX8_line 19 = .ok (.iload_n 3, 1) := by decide +kernel
theorem dX8_line_20 : decode cX8_line 20 = .ok (.bipush 6, 2) := by decide +kernel
theorem dX8_line_22 : decode cX8_line 22 = .ok (.if_icmp .lt 6, 3) := by decide +kernel
theorem dX8_line_25 : decode cX8_line 25 = .ok (.bipush (-102), 2) := by decide +kernel
theorem dX8_line_27 : decode cX8_line 27 = .ok (.ireturn, 1) := by decide +kernel
theorem dX8_line_28 : decode cX8_line 28 = .ok (.aload_n 0, 1) := by decide +kernel
theorem dX8_line_29 : decode cX8_line 29 = .ok (.getfield 27, 3) := by decide +kernel
theorem dX8_line_32 : decode cX8_line 32 = .ok (.getfield 98, 3) := by decide +kernel
theorem dX8_line_35 : decode cX8_line 35 = .ok (.iload_n 1, 1) := by decide +kernel
theorem dX8_line_36 : decode cX8_line 36 = .ok (.aaload, 1) := by decide +kernel
theorem dX8_line_37 : decode cX8_line 37 = .ok (.iload_n 2, 1) := by decide +kernel
theorem dX8_line_38 : decode cX8_line 38 = .ok (.iaload, 1) := by decide +kernel
theorem dX8_line_39 : decode cX8_line 39 = .ok (.istore 4, 2) := by decide +kernel
theorem dX8_line_41 : decode cX8_line 41 = .ok (.iload_n 3, 1) := by decide +kernel
theorem dX8_line_42 : decode cX8_line 42 = .ok (.ifCond .ne 9, 3) := by decide +kernel
theorem dX8_line_45 : decode cX8_line 45 = .ok (.iload 4, 2) := by decide +kernel
theorem dX8_line_47 : decode cX8_line 47 = .ok (.invokestatic 102, 3) := by decide +kernel
theorem dX8_line_50 : decode cX8_line 50 = .ok (.ireturn, 1) := by decide +kernel
theorem dX8_line_51 : decode cX8_line 51 = .ok (.iload_n 3, 1) := by decide +kernel
theorem dX8_line_52 : decode cX8_line 52 = .ok (.iconst 3, 1) := by decide +kernel
theorem dX8_line_53 : decode cX8_line 53 = .ok (.if_icmp .gt 12, 3) := by decide +kernel
theorem dX8_line_56 : decode cX8_line 56 = .ok (.iload 4, 2) := by decide +kernel
theorem dX8_line_58 : decode cX8_line 58 = .ok (.iload_n 3, 1) := by decide +kernel
theorem dX8_line_59 : decode cX8_line 59 = .ok (.iconst 1, 1) := by decide +kernel
theorem dX8_line_60 : decode cX8_line 60 = .ok (.isub, 1) := by decide +kernel
theorem dX8_line_61 : decode cX8_line 61 = .ok (.invokestatic 106, 3) := by decide +kernel
theorem dX8_line_64 : decode cX8_line 64 = .ok (.ireturn, 1) := by decide +kernel
theorem dX8_line_65 : decode cX8_line 65 = .ok (.aload_n 0, 1) := by decide +kernel
theorem dX8_line_66 : decode cX8_line 66 = .ok (.getfield 19, 3) := by decide +kernel
theorem dX8_line_69 : decode cX8_line 69 = .ok (.getfield 110, 3) := by decide +kernel
theorem dX8_line_72 : decode cX8_line 72 = .ok (.iload_n 1, 1) := by decide +kernel
theorem dX8_line_73 : decode cX8_line 73 = .ok (.aaload, 1) := by decide +kernel
theorem dX8_line_74 : decode cX8_line 74 = .ok (.iload_n 2, 1) := by decide +kernel
theorem dX8_line_75 : decode cX8_line 75 = .ok (.iaload, 1) := by decide +kernel
theorem dX8_line_76 : decode cX8_line 76 = .ok (.istore 5, 2) := by decide +kernel
theorem dX8_line_78 : decode cX8_line 78 = .ok (.iload_n 3, 1) := by decide +kernel
theorem dX8_line_79 : decode cX8_line 79 = .ok (.iconst 5, 1) := by decide +kernel
theorem dX8_line_80 : decode cX8_line 80 = .ok (.if_icmp .ne 15, 3) := by decide +kernel
theorem dX8_line_83 : decode cX8_line 83 = .ok (.iload 5, 2) := by decide +kernel
theorem dX8_line_85 : decode cX8_line 85 = .ok (.iconst (-1), 1) := by decide +kernel
theorem dX8_line_86 : decode cX8_line 86 = .ok (.if_icmp .ne 7, 3) := by decide +kernel
theorem dX8_line_89 : decode cX8_line 89 = .ok (.iconst 0, 1) := by decide +kernel
theorem dX8_line_90 : decode cX8_line 90 = .ok (.goto 4, 3) := by decide +kernel
theorem dX8_line_93 : decode cX8_line 93 = .ok (.iconst 1, 1) := by decide +kernel
theorem dX8_line_94 : decode cX8_line 94 = .ok (.ireturn, 1) := by decide +kernel
theorem dX8_line_95 : decode cX8_line 95 = .ok (.iload 5, 2) := by decide +kernel
theorem dX8_line_97 : decode cX8_line 97 = .ok (.iconst (-1), 1) := by decide +kernel
theorem dX8_line_98 : decode cX8_line 98 = .ok (.if_icmp .ne 17, 3) := by decide +kernel
theorem dX8_line_101 : decode cX8_line 101 = .ok (.aload_n 0, 1) := by decide +kernel
theorem dX8_line_102 : decode cX8_line 102 = .ok (.getfield 47, 3) := by decide +kernel
theorem dX8_line_105 : decode cX8_line 105 = .ok (.getfield 113, 3) := by decide +kernel
theorem dX8_line_108 : decode cX8_line 108 = .ok (.iload_n 1, 1) := by decide +kernel
theorem dX8_line_109 : decode cX8_line 109 = .ok (.aaload, 1) := by decide +kernel
theorem dX8_line_110 : decode cX8_line 110 = .ok (.iload_n 2, 1) := by decide +kernel
theorem dX8_line_111 : decode cX8_line 111 = .ok (.iaload, 1) := by decide +kernel
theorem dX8_line_112 : decode cX8_line 112 = .ok (.goto 5, 3) := by decide +kernel
theorem dX8_line_115 : decode cX8_line 115 = .ok (.iload 5, 2) := by decide +kernel
theorem dX8_line_117 : decode cX8_line 117 = .ok (.ireturn, 1) := by decide +kernel
theorem dX8_step_0 : decode cX8_step 0 = .ok (.aload_n 0, 1) := by decide +kernel
theorem dX8_step_1 : decode cX8_step 1 = .ok (.getfield 47, 3) := by decide +kernel
theorem dX8_step_4 : decode cX8_step 4 = .ok (.iload_n 1, 1) := by decide +kernel
theorem dX8_step_5 : decode cX8_step 5 = .ok (.invokevirtual 116, 3) := by decide +kernel
theorem dX8_step_8 : decode cX8_step 8 = .ok (.ifCond .ne 6, 3) := by decide +kernel
theorem dX8_step_11 : decode cX8_step 11 = .ok (.bipush (-101), 2) := by decide +kernel
theorem dX8_step_13 : decode cX8_step 13 = .ok (.ireturn, 1) := by decide +kernel
theorem dX8_step_14 : decode cX8_step 14 = .ok (.iload_n 2, 1) := by decide +kernel
theorem dX8_step_15 : decode cX8_step 15 = .ok (.tableswitch 83 0 4 #[33, 43, 53, 63, 73], 33) := by decide +kernel
theorem dX8_step_48 : decode cX8_step 48 = .ok (.aload_n 0, 1) := by decide +kernel
theorem dX8_step_49 : decode cX8_step 49 = .ok (.getfield 47, 3) := by decide +kernel
theorem dX8_step_52 : decode cX8_step 52 = .ok (.getfield 118, 3) := by decide +kernel
theorem dX8_step_55 : decode cX8_step 55 = .ok (.iload_n 1, 1) := by decide +kernel
theorem dX8_step_56 : decode cX8_step 56 = .ok (.iaload, 1) := by decide +kernel
theorem dX8_step_57 : decode cX8_step 57 = .ok (.ireturn, 1) := by decide +kernel
theorem dX8_step_58 : decode cX8_step 58 = .ok (.aload_n 0, 1) := by decide +kernel
theorem dX8_step_59 : decode cX8_step 59 = .ok (.getfield 47, 3) := by decide +kernel
theorem dX8_step_62 : decode cX8_step 62 = .ok (.getfield 122, 3) := by decide +kernel
theorem dX8_step_65 : decode cX8_step 65 = .ok (.iload_n 1, 1) := by decide +kernel
theorem dX8_step_66 : decode cX8_step 66 = .ok (.iaload, 1) := by decide +kernel
theorem dX8_step_67 : decode cX8_step 67 = .ok (.ireturn, 1) := by decide +kernel
theorem dX8_step_68 : decode cX8_step 68 = .ok (.aload_n 0, 1) := by decide +kernel
theorem dX8_step_69 : decode cX8_step 69 = .ok (.getfield 47, 3) := by decide +kernel
theorem dX8_step_72 : decode cX8_step 72 = .ok (.getfield 125, 3) := by decide +kernel
theorem dX8_step_75 : decode cX8_step 75 = .ok (.iload_n 1, 1) := by decide +kernel
theorem dX8_step_76 : decode cX8_step 76 = .ok (.iaload, 1) := by decide +kernel
theorem dX8_step_77 : decode cX8_step 77 = .ok (.ireturn, 1) := by decide +kernel
theorem dX8_step_78 : decode cX8_step 78 = .ok (.aload_n 0, 1) := by decide +kernel
theorem dX8_step_79 : decode cX8_step 79 = .ok (.getfield 47, 3) := by decide +kernel
theorem dX8_step_82 : decode cX8_step 82 = .ok (.getfield 128, 3) := by decide +kernel
theorem dX8_step_85 : decode cX8_step 85 = .ok (.iload_n 1, 1) := by decide +kernel
theorem dX8_step_86 : decode cX8_step 86 = .ok (.iaload, 1) := by decide +kernel
theorem dX8_step_87 : decode cX8_step 87 = .ok (.ireturn, 1) := by decide +kernel
theorem dX8_step_88 : decode cX8_step 88 = .ok (.aload_n 0, 1) := by decide +kernel
theorem dX8_step_89 : decode cX8_step 89 = .ok (.getfield 47, 3) := by decide +kernel
theorem dX8_step_92 : decode cX8_step 92 = .ok (.getfield 131, 3) := by decide +kernel
theorem dX8_step_95 : decode cX8_step 95 = .ok (.iload_n 1, 1) := by decide +kernel
theorem dX8_step_96 : decode cX8_step 96 = .ok (.iaload, 1) := by decide +kernel
theorem dX8_step_97 : decode cX8_step 97 = .ok (.ireturn, 1) := by decide +kernel
theorem dX8_step_98 : decode cX8_step 98 = .ok (.bipush (-102), 2) := by decide +kernel
theorem dX8_step_100 : decode cX8_step 100 = .ok (.ireturn, 1) := by decide +kernel
theorem dX8_letters_0 : decode cX8_letters 0 = .ok (.aload_n 0, 1) := by decide +kernel
theorem dX8_letters_1 : decode cX8_letters 1 = .ok (.getfield 47, 3) := by decide +kernel
theorem dX8_letters_4 : decode cX8_letters 4 = .ok (.iload_n 1, 1) := by decide +kernel
theorem dX8_letters_5 : decode cX8_letters 5 = .ok (.invokevirtual 116, 3) := by decide +kernel
theorem dX8_letters_8 : decode cX8_letters 8 = .ok (.ifCond .ne 6, 3) := by decide +kernel
theorem dX8_letters_11 : decode cX8_letters 11 = .ok (.bipush (-101), 2) := by decide +kernel
theorem dX8_letters_13 : decode cX8_letters 13 = .ok (.ireturn, 1) := by decide +kernel
theorem dX8_letters_14 : decode cX8_letters 14 = .ok (.aload_n 0, 1) := by decide +kernel
theorem dX8_letters_15 : decode cX8_letters 15 = .ok (.getfield 47, 3) := by decide +kernel
theorem dX8_letters_18 : decode cX8_letters 18 = .ok (.getfield 118, 3) := by decide +kernel
theorem dX8_letters_21 : decode cX8_letters 21 = .ok (.iload_n 1, 1) := by decide +kernel
theorem dX8_letters_22 : decode cX8_letters 22 = .ok (.iaload, 1) := by decide +kernel
theorem dX8_letters_23 : decode cX8_letters 23 = .ok (.iconst 3, 1) := by decide +kernel
theorem dX8_letters_24 : decode cX8_letters 24 = .ok (.invokestatic 134, 3) := by decide +kernel
theorem dX8_letters_27 : decode cX8_letters 27 = .ok (.ifCond .ne 6, 3) := by decide +kernel
theorem dX8_letters_30 : decode cX8_letters 30 = .ok (.bipush (-103), 2) := by decide +kernel
theorem dX8_letters_32 : decode cX8_letters 32 = .ok (.ireturn, 1) := by decide +kernel
theorem dX8_letters_33 : decode cX8_letters 33 = .ok (.aload_n 0, 1) := by decide +kernel
theorem dX8_letters_34 : decode cX8_letters 34 = .ok (.getfield 27, 3) := by decide +kernel
theorem dX8_letters_37 : decode cX8_letters 37 = .ok (.getfield 98, 3) := by decide +kernel
theorem dX8_letters_40 : decode cX8_letters 40 = .ok (.iconst 0, 1) := by decide +kernel
theorem dX8_letters_41 : decode cX8_letters 41 = .ok (.aaload, 1) := by decide +kernel
theorem dX8_letters_42 : decode cX8_letters 42 = .ok (.aload_n 0, 1) := by decide +kernel
theorem dX8_letters_43 : decode cX8_letters 43 = .ok (.getfield 47, 3) := by decide +kernel
theorem dX8_letters_46 : decode cX8_letters 46 = .ok (.getfield 122, 3) := by decide +kernel
theorem dX8_letters_49 : decode cX8_letters 49 = .ok (.iload_n 1, 1) := by decide +kernel
theorem dX8_letters_50 : decode cX8_letters 50 = .ok (.iaload, 1) := by decide +kernel
theorem dX8_letters_51 : decode cX8_letters 51 = .ok (.iaload, 1) := by decide +kernel
theorem dX8_letters_52 : decode cX8_letters 52 = .ok (.istore_n 3, 1) := by decide +kernel
theorem dX8_letters_53 : decode cX8_letters 53 = .ok (.aload_n 0, 1) := by decide +kernel
theorem dX8_letters_54 : decode cX8_letters 54 = .ok (.getfield 27, 3) := by decide +kernel
theorem dX8_letters_57 : decode cX8_letters 57 = .ok (.getfield 98, 3) := by decide +kernel
theorem dX8_letters_60 : decode cX8_letters 60 = .ok (.iconst 1, 1) := by decide +kernel
theorem dX8_letters_61 : decode cX8_letters 61 = .ok (.aaload, 1) := by decide +kernel
theorem dX8_letters_62 : decode cX8_letters 62 = .ok (.aload_n 0, 1) := by decide +kernel
theorem dX8_letters_63 : decode cX8_letters 63 = .ok (.getfield 47, 3) := by decide +kernel
theorem dX8_letters_66 : decode cX8_letters 66 = .ok (.getfield 125, 3) := by decide +kernel
theorem dX8_letters_69 : decode cX8_letters 69 = .ok (.iload_n 1, 1) := by decide +kernel
theorem dX8_letters_70 : decode cX8_letters 70 = .ok (.iaload, 1) := by decide +kernel
theorem dX8_letters_71 : decode cX8_letters 71 = .ok (.iaload, 1) := by decide +kernel
theorem dX8_letters_72 : decode cX8_letters 72 = .ok (.istore 4, 2) := by decide +kernel
theorem dX8_letters_74 : decode cX8_letters 74 = .ok (.aload_n 0, 1) := by decide +kernel
theorem dX8_letters_75 : decode cX8_letters 75 = .ok (.getfield 40, 3) := by decide +kernel
theorem dX8_letters_78 : decode cX8_letters 78 = .ok (.iload_n 3, 1) := by decide +kernel
theorem dX8_letters_79 : decode cX8_letters 79 = .ok (.iload 4, 2) := by decide +kernel
theorem dX8_letters_81 : decode cX8_letters 81 = .ok (.invokevirtual 137, 3) := by decide +kernel
theorem dX8_letters_84 : decode cX8_letters 84 = .ok (.istore 5, 2) := by decide +kernel
theorem dX8_letters_86 : decode cX8_letters 86 = .ok (.iload_n 2, 1) := by decide +kernel
theorem dX8_letters_87 : decode cX8_letters 87 = .ok (.tableswitch 45 0 2 #[25, 28, 36], 25) := by decide +kernel
theorem dX8_letters_112 : decode cX8_letters 112 = .ok (.iload 5, 2) := by decide +kernel
theorem dX8_letters_114 : decode cX8_letters 114 = .ok (.ireturn, 1) := by decide +kernel
theorem dX8_letters_115 : decode cX8_letters 115 = .ok (.iload_n 3, 1) := by decide +kernel
theorem dX8_letters_116 : decode cX8_letters 116 = .ok (.invokestatic 102, 3) := by decide +kernel
theorem dX8_letters_119 : decode cX8_letters 119 = .ok (.iload 5, 2) := by decide +kernel
theorem dX8_letters_121 : decode cX8_letters 121 = .ok (.isub, 1) := by decide +kernel
theorem dX8_letters_122 : decode cX8_letters 122 = .ok (.ireturn, 1) := by decide +kernel
theorem dX8_letters_123 : decode cX8_letters 123 = .ok (.iload 4, 2) := by decide +kernel
theorem dX8_letters_125 : decode cX8_letters 125 = .ok (.invokestatic 102, 3) := by decide +kernel
theorem dX8_letters_128 : decode cX8_letters 128 = .ok (.iload 5, 2) := by decide +kernel
theorem dX8_letters_130 : decode cX8_letters 130 = .ok (.isub, 1) := by decide +kernel
theorem dX8_letters_131 : decode cX8_letters 131 = .ok (.ireturn, 1) := by decide +kernel
theorem dX8_letters_132 : decode cX8_letters 132 = .ok (.bipush (-102), 2) := by decide +kernel
theorem dX8_letters_134 : decode cX8_letters 134 = .ok (.ireturn, 1) := by decide +kernel
theorem dX8_like_0 : decode cX8_like 0 = .ok (.aload_n 0, 1) := by decide +kernel
theorem dX8_like_1 : decode cX8_like 1 = .ok (.getfield 27, 3) := by decide +kernel
theorem dX8_like_4 : decode cX8_like 4 = .ok (.iconst 0, 1) := by decide +kernel
theorem dX8_like_5 : decode cX8_like 5 = .ok (.iload_n 1, 1) := by decide +kernel
theorem dX8_like_6 : decode cX8_like 6 = .ok (.invokevirtual 94, 3) := by decide +kernel
theorem dX8_like_9 : decode cX8_like 9 = .ok (.ifCond .eq 15, 3) := by decide +kernel
theorem dX8_like_12 : decode cX8_like 12 = .ok (.aload_n 0, 1) := by decide +kernel
theorem dX8_like_13 : decode cX8_like 13 = .ok (.getfield 27, 3) := by decide +kernel
theorem dX8_like_16 : decode cX8_like 16 = .ok (.iconst 1, 1) := by decide +kernel
theorem dX8_like_17 : decode cX8_like 17 = .ok (.iload_n 2, 1) := by decide +kernel
theorem dX8_like_18 : decode cX8_like 18 = .ok (.invokevirtual 94, 3) := by decide +kernel
theorem dX8_like_21 : decode cX8_like 21 = .ok (.ifCond .ne 6, 3) := by decide +kernel
theorem dX8_like_24 : decode cX8_like 24 = .ok (.bipush (-101), 2) := by decide +kernel
theorem dX8_like_26 : decode cX8_like 26 = .ok (.ireturn, 1) := by decide +kernel
theorem dX8_like_27 : decode cX8_like 27 = .ok (.aload_n 0, 1) := by decide +kernel
theorem dX8_like_28 : decode cX8_like 28 = .ok (.getfield 40, 3) := by decide +kernel
theorem dX8_like_31 : decode cX8_like 31 = .ok (.aload_n 0, 1) := by decide +kernel
theorem dX8_like_32 : decode cX8_like 32 = .ok (.getfield 27, 3) := by decide +kernel
theorem dX8_like_35 : decode cX8_like 35 = .ok (.getfield 98, 3) := by decide +kernel
theorem dX8_like_38 : decode cX8_like 38 = .ok (.iconst 0, 1) := by decide +kernel
theorem dX8_like_39 : decode cX8_like 39 = .ok (.aaload, 1) := by decide +kernel
theorem dX8_like_40 : decode cX8_like 40 = .ok (.iload_n 1, 1) := by decide +kernel
theorem dX8_like_41 : decode cX8_like 41 = .ok (.iaload, 1) := by decide +kernel
theorem dX8_like_42 : decode cX8_like 42 = .ok (.aload_n 0, 1) := by decide +kernel
theorem dX8_like_43 : decode cX8_like 43 = .ok (.getfield 27, 3) := by decide +kernel
theorem dX8_like_46 : decode cX8_like 46 = .ok (.getfield 98, 3) := by decide +kernel
theorem dX8_like_49 : decode cX8_like 49 = .ok (.iconst 1, 1) := by decide +kernel
theorem dX8_like_50 : decode cX8_like 50 = .ok (.aaload, 1) := by decide +kernel
theorem dX8_like_51 : decode cX8_like 51 = .ok (.iload_n 2, 1) := by decide +kernel
theorem dX8_like_52 : decode cX8_like 52 = .ok (.iaload, 1) := by decide +kernel
theorem dX8_like_53 : decode cX8_like 53 = .ok (.invokevirtual 140, 3) := by decide +kernel
theorem dX8_like_56 : decode cX8_like 56 = .ok (.invokestatic 144, 3) := by decide +kernel
theorem dX8_like_59 : decode cX8_like 59 = .ok (.ireturn, 1) := by decide +kernel
theorem dX8_rack_0 : decode cX8_rack 0 = .ok (.aload_n 0, 1) := by decide +kernel
theorem dX8_rack_1 : decode cX8_rack 1 = .ok (.getfield 47, 3) := by decide +kernel
theorem dX8_rack_4 : decode cX8_rack 4 = .ok (.iload_n 1, 1) := by decide +kernel
theorem dX8_rack_5 : decode cX8_rack 5 = .ok (.invokevirtual 116, 3) := by decide +kernel
theorem dX8_rack_8 : decode cX8_rack 8 = .ok (.ifCond .ne 6, 3) := by decide +kernel
theorem dX8_rack_11 : decode cX8_rack 11 = .ok (.bipush (-101), 2) := by decide +kernel
theorem dX8_rack_13 : decode cX8_rack 13 = .ok (.ireturn, 1) := by decide +kernel
theorem dX8_rack_14 : decode cX8_rack 14 = .ok (.iload_n 2, 1) := by decide +kernel
theorem dX8_rack_15 : decode cX8_rack 15 = .ok (.ifCond .lt 8, 3) := by decide +kernel
theorem dX8_rack_18 : decode cX8_rack 18 = .ok (.iload_n 2, 1) := by decide +kernel
theorem dX8_rack_19 : decode cX8_rack 19 = .ok (.iconst 5, 1) := by decide +kernel
theorem dX8_rack_20 : decode cX8_rack 20 = .ok (.if_icmp .lt 6, 3) := by decide +kernel
theorem dX8_rack_23 : decode cX8_rack 23 = .ok (.bipush (-102), 2) := by decide +kernel
theorem dX8_rack_25 : decode cX8_rack 25 = .ok (.ireturn, 1) := by decide +kernel
theorem dX8_rack_26 : decode cX8_rack 26 = .ok (.aload_n 0, 1) := by decide +kernel
theorem dX8_rack_27 : decode cX8_rack 27 = .ok (.getfield 54, 3) := by decide +kernel
theorem dX8_rack_30 : decode cX8_rack 30 = .ok (.getfield 148, 3) := by decide +kernel
theorem dX8_rack_33 : decode cX8_rack 33 = .ok (.iload_n 2, 1) := by decide +kernel
theorem dX8_rack_34 : decode cX8_rack 34 = .ok (.iaload, 1) := by decide +kernel
theorem dX8_rack_35 : decode cX8_rack 35 = .ok (.iconst 3, 1) := by decide +kernel
theorem dX8_rack_36 : decode cX8_rack 36 = .ok (.if_icmp .lt 6, 3) := by decide +kernel
theorem dX8_rack_39 : decode cX8_rack 39 = .ok (.bipush (-104), 2) := by decide +kernel
theorem dX8_rack_41 : decode cX8_rack 41 = .ok (.ireturn, 1) := by decide +kernel
theorem dX8_rack_42 : decode cX8_rack 42 = .ok (.aload_n 0, 1) := by decide +kernel
theorem dX8_rack_43 : decode cX8_rack 43 = .ok (.getfield 47, 3) := by decide +kernel
theorem dX8_rack_46 : decode cX8_rack 46 = .ok (.getfield 118, 3) := by decide +kernel
theorem dX8_rack_49 : decode cX8_rack 49 = .ok (.iload_n 1, 1) := by decide +kernel
theorem dX8_rack_50 : decode cX8_rack 50 = .ok (.iaload, 1) := by decide +kernel
theorem dX8_rack_51 : decode cX8_rack 51 = .ok (.iload_n 2, 1) := by decide +kernel
theorem dX8_rack_52 : decode cX8_rack 52 = .ok (.invokestatic 134, 3) := by decide +kernel
theorem dX8_rack_55 : decode cX8_rack 55 = .ok (.ifCond .ne 5, 3) := by decide +kernel
theorem dX8_rack_58 : decode cX8_rack 58 = .ok (.iconst (-1), 1) := by decide +kernel
theorem dX8_rack_59 : decode cX8_rack 59 = .ok (.ireturn, 1) := by decide +kernel
theorem dX8_rack_60 : decode cX8_rack 60 = .ok (.aload_n 0, 1) := by decide +kernel
theorem dX8_rack_61 : decode cX8_rack 61 = .ok (.getfield 54, 3) := by decide +kernel
theorem dX8_rack_64 : decode cX8_rack 64 = .ok (.iload_n 2, 1) := by decide +kernel
theorem dX8_rack_65 : decode cX8_rack 65 = .ok (.iload_n 1, 1) := by decide +kernel
theorem dX8_rack_66 : decode cX8_rack 66 = .ok (.invokevirtual 150, 3) := by decide +kernel
theorem dX8_rack_69 : decode cX8_rack 69 = .ok (.ireturn, 1) := by decide +kernel
theorem dX8_racked_0 : decode cX8_racked 0 = .ok (.iload_n 1, 1) := by decide +kernel
theorem dX8_racked_1 : decode cX8_racked 1 = .ok (.ifCond .lt 17, 3) := by decide +kernel
theorem dX8_racked_4 : decode cX8_racked 4 = .ok (.iload_n 1, 1) := by decide +kernel
theorem dX8_racked_5 : decode cX8_racked 5 = .ok (.iconst 5, 1) := by decide +kernel
theorem dX8_racked_6 : decode cX8_racked 6 = .ok (.if_icmp .ge 12, 3) := by decide +kernel
theorem dX8_racked_9 : decode cX8_racked 9 = .ok (.iload_n 2, 1) := by decide +kernel
theorem dX8_racked_10 : decode cX8_racked 10 = .ok (.ifCond .lt 8, 3) := by decide +kernel
theorem dX8_racked_13 : decode cX8_racked 13 = .ok (.iload_n 2, 1) := by decide +kernel
theorem dX8_racked_14 : decode cX8_racked 14 = .ok (.iconst 3, 1) := by decide +kernel
theorem dX8_racked_15 : decode cX8_racked 15 = .ok (.if_icmp .lt 6, 3) := by decide +kernel
theorem dX8_racked_18 : decode cX8_racked 18 = .ok (.bipush (-102), 2) := by decide +kernel
theorem dX8_racked_20 : decode cX8_racked 20 = .ok (.ireturn, 1) := by decide +kernel
theorem dX8_racked_21 : decode cX8_racked 21 = .ok (.iload_n 2, 1) := by decide +kernel
theorem dX8_racked_22 : decode cX8_racked 22 = .ok (.aload_n 0, 1) := by decide +kernel
theorem dX8_racked_23 : decode cX8_racked 23 = .ok (.getfield 54, 3) := by decide +kernel
theorem dX8_racked_26 : decode cX8_racked 26 = .ok (.getfield 148, 3) := by decide +kernel
theorem dX8_racked_29 : decode cX8_racked 29 = .ok (.iload_n 1, 1) := by decide +kernel
theorem dX8_racked_30 : decode cX8_racked 30 = .ok (.iaload, 1) := by decide +kernel
theorem dX8_racked_31 : decode cX8_racked 31 = .ok (.if_icmp .ge 17, 3) := by decide +kernel
theorem dX8_racked_34 : decode cX8_racked 34 = .ok (.aload_n 0, 1) := by decide +kernel
theorem dX8_racked_35 : decode cX8_racked 35 = .ok (.getfield 54, 3) := by decide +kernel
theorem dX8_racked_38 : decode cX8_racked 38 = .ok (.getfield 152, 3) := by decide +kernel
theorem dX8_racked_41 : decode cX8_racked 41 = .ok (.iload_n 1, 1) := by decide +kernel
theorem dX8_racked_42 : decode cX8_racked 42 = .ok (.aaload, 1) := by decide +kernel
theorem dX8_racked_43 : decode cX8_racked 43 = .ok (.iload_n 2, 1) := by decide +kernel
theorem dX8_racked_44 : decode cX8_racked 44 = .ok (.iaload, 1) := by decide +kernel
theorem dX8_racked_45 : decode cX8_racked 45 = .ok (.goto 4, 3) := by decide +kernel
theorem dX8_racked_48 : decode cX8_racked 48 = .ok (.iconst (-1), 1) := by decide +kernel
theorem dX8_racked_49 : decode cX8_racked 49 = .ok (.ireturn, 1) := by decide +kernel
theorem dX8_put_0 : decode cX8_put 0 = .ok (.iload_n 1, 1) := by decide +kernel
theorem dX8_put_1 : decode cX8_put 1 = .ok (.invokestatic 155, 3) := by decide +kernel
theorem dX8_put_4 : decode cX8_put 4 = .ok (.ifCond .eq 20, 3) := by decide +kernel
theorem dX8_put_7 : decode cX8_put 7 = .ok (.iload_n 2, 1) := by decide +kernel
theorem dX8_put_8 : decode cX8_put 8 = .ok (.ifCond .lt 16, 3) := by decide +kernel
theorem dX8_put_11 : decode cX8_put 11 = .ok (.iload_n 2, 1) := by decide +kernel
theorem dX8_put_12 : decode cX8_put 12 = .ok (.aload_n 0, 1) := by decide +kernel
theorem dX8_put_13 : decode cX8_put 13 = .ok (.getfield 27, 3) := by decide +kernel
theorem dX8_put_16 : decode cX8_put 16 = .ok (.getfield 158, 3) := by decide +kernel
theorem dX8_put_19 : decode cX8_put 19 = .ok (.iload_n 1, 1) := by decide +kernel
theorem dX8_put_20 : decode cX8_put 20 = .ok (.iaload, 1) := by decide +kernel
theorem dX8_put_21 : decode cX8_put 21 = .ok (.if_icmp .le 6, 3) := by decide +kernel
theorem dX8_put_24 : decode cX8_put 24 = .ok (.bipush (-101), 2) := by decide +kernel
theorem dX8_put_26 : decode cX8_put 26 = .ok (.ireturn, 1) := by decide +kernel
theorem dX8_put_27 : decode cX8_put 27 = .ok (.iload_n 3, 1) := by decide +kernel
theorem dX8_put_28 : decode cX8_put 28 = .ok (.invokestatic 159, 3) := by decide +kernel
theorem dX8_put_31 : decode cX8_put 31 = .ok (.ifCond .ne 6, 3) := by decide +kernel
theorem dX8_put_34 : decode cX8_put 34 = .ok (.bipush (-102), 2) := by decide +kernel
theorem dX8_put_36 : decode cX8_put 36 = .ok (.ireturn, 1) := by decide +kernel
theorem dX8_put_37 : decode cX8_put 37 = .ok (.aload_n 0, 1) := by decide +kernel
theorem dX8_put_38 : decode cX8_put 38 = .ok (.getfield 58, 3) := by decide +kernel
theorem dX8_put_41 : decode cX8_put 41 = .ok (.ifCond .ne 6, 3) := by decide +kernel
theorem dX8_put_44 : decode cX8_put 44 = .ok (.bipush (-103), 2) := by decide +kernel
theorem dX8_put_46 : decode cX8_put 46 = .ok (.ireturn, 1) := by decide +kernel
theorem dX8_put_47 : decode cX8_put 47 = .ok (.aload_n 0, 1) := by decide +kernel
theorem dX8_put_48 : decode cX8_put 48 = .ok (.getfield 27, 3) := by decide +kernel
theorem dX8_put_51 : decode cX8_put 51 = .ok (.getfield 158, 3) := by decide +kernel
theorem dX8_put_54 : decode cX8_put 54 = .ok (.iload_n 1, 1) := by decide +kernel
theorem dX8_put_55 : decode cX8_put 55 = .ok (.iaload, 1) := by decide +kernel
theorem dX8_put_56 : decode cX8_put 56 = .ok (.bipush 8, 2) := by decide +kernel
theorem dX8_put_58 : decode cX8_put 58 = .ok (.if_icmp .lt 6, 3) := by decide +kernel
theorem dX8_put_61 : decode cX8_put 61 = .ok (.bipush (-104), 2) := by decide +kernel
theorem dX8_put_63 : decode cX8_put 63 = .ok (.ireturn, 1) := by decide +kernel
theorem dX8_put_64 : decode cX8_put 64 = .ok (.aload_n 0, 1) := by decide +kernel
theorem dX8_put_65 : decode cX8_put 65 = .ok (.getfield 27, 3) := by decide +kernel
theorem dX8_put_68 : decode cX8_put 68 = .ok (.iload_n 1, 1) := by decide +kernel
theorem dX8_put_69 : decode cX8_put 69 = .ok (.iload_n 2, 1) := by decide +kernel
theorem dX8_put_70 : decode cX8_put 70 = .ok (.iload_n 3, 1) := by decide +kernel
theorem dX8_put_71 : decode cX8_put 71 = .ok (.invokevirtual 162, 3) := by decide +kernel
theorem dX8_put_74 : decode cX8_put 74 = .ok (.aload_n 0, 1) := by decide +kernel
theorem dX8_put_75 : decode cX8_put 75 = .ok (.invokevirtual 88, 3) := by decide +kernel
theorem dX8_put_78 : decode cX8_put 78 = .ok (.ireturn, 1) := by decide +kernel
theorem dX8_take_0 : decode cX8_take 0 = .ok (.aload_n 0, 1) := by decide +kernel
theorem dX8_take_1 : decode cX8_take 1 = .ok (.getfield 27, 3) := by decide +kernel
theorem dX8_take_4 : decode cX8_take 4 = .ok (.iload_n 1, 1) := by decide +kernel
theorem dX8_take_5 : decode cX8_take 5 = .ok (.iload_n 2, 1) := by decide +kernel
theorem dX8_take_6 : decode cX8_take 6 = .ok (.invokevirtual 94, 3) := by decide +kernel
theorem dX8_take_9 : decode cX8_take 9 = .ok (.ifCond .ne 6, 3) := by decide +kernel
theorem dX8_take_12 : decode cX8_take 12 = .ok (.bipush (-101), 2) := by decide +kernel
theorem dX8_take_14 : decode cX8_take 14 = .ok (.ireturn, 1) := by decide +kernel
theorem dX8_take_15 : decode cX8_take 15 = .ok (.aload_n 0, 1) := by decide +kernel
theorem dX8_take_16 : decode cX8_take 16 = .ok (.getfield 27, 3) := by decide +kernel
theorem dX8_take_19 : decode cX8_take 19 = .ok (.iload_n 1, 1) := by decide +kernel
theorem dX8_take_20 : decode cX8_take 20 = .ok (.iload_n 2, 1) := by decide +kernel
theorem dX8_take_21 : decode cX8_take 21 = .ok (.invokevirtual 166, 3) := by decide +kernel
theorem dX8_take_24 : decode cX8_take 24 = .ok (.aload_n 0, 1) := by decide +kernel
theorem dX8_take_25 : decode cX8_take 25 = .ok (.invokevirtual 88, 3) := by decide +kernel
theorem dX8_take_28 : decode cX8_take 28 = .ok (.ireturn, 1) := by decide +kernel
theorem dX8_swap_0 : decode cX8_swap 0 = .ok (.aload_n 0, 1) := by decide +kernel
theorem dX8_swap_1 : decode cX8_swap 1 = .ok (.getfield 27, 3) := by decide +kernel
theorem dX8_swap_4 : decode cX8_swap 4 = .ok (.iload_n 1, 1) := by decide +kernel
theorem dX8_swap_5 : decode cX8_swap 5 = .ok (.iload_n 2, 1) := by decide +kernel
theorem dX8_swap_6 : decode cX8_swap 6 = .ok (.invokevirtual 94, 3) := by decide +kernel
theorem dX8_swap_9 : decode cX8_swap 9 = .ok (.ifCond .eq 20, 3) := by decide +kernel
theorem dX8_swap_12 : decode cX8_swap 12 = .ok (.aload_n 0, 1) := by decide +kernel
theorem dX8_swap_13 : decode cX8_swap 13 = .ok (.getfield 27, 3) := by decide +kernel
theorem dX8_swap_16 : decode cX8_swap 16 = .ok (.iload_n 1, 1) := by decide +kernel
theorem dX8_swap_17 : decode cX8_swap 17 = .ok (.iload_n 3, 1) := by decide +kernel
theorem dX8_swap_18 : decode cX8_swap 18 = .ok (.invokevirtual 94, 3) := by decide +kernel
theorem dX8_swap_21 : decode cX8_swap 21 = .ok (.ifCond .eq 8, 3) := by decide +kernel
theorem dX8_swap_24 : decode cX8_swap 24 = .ok (.iload_n 2, 1) := by decide +kernel
theorem dX8_swap_25 : decode cX8_swap 25 = .ok (.iload_n 3, 1) := by decide +kernel
theorem dX8_swap_26 : decode cX8_swap 26 = .ok (.if_icmp .ne 6, 3) := by decide +kernel
theorem dX8_swap_29 : decode cX8_swap 29 = .ok (.bipush (-101), 2) := by decide +kernel
theorem dX8_swap_31 : decode cX8_swap 31 = .ok (.ireturn, 1) := by decide +kernel
theorem dX8_swap_32 : decode cX8_swap 32 = .ok (.aload_n 0, 1) := by decide +kernel
theorem dX8_swap_33 : decode cX8_swap 33 = .ok (.getfield 27, 3) := by decide +kernel
theorem dX8_swap_36 : decode cX8_swap 36 = .ok (.iload_n 1, 1) := by decide +kernel
theorem dX8_swap_37 : decode cX8_swap 37 = .ok (.iload_n 2, 1) := by decide +kernel
theorem dX8_swap_38 : decode cX8_swap 38 = .ok (.iload_n 3, 1) := by decide +kernel
theorem dX8_swap_39 : decode cX8_swap 39 = .ok (.invokevirtual 170, 3) := by decide +kernel
theorem dX8_swap_42 : decode cX8_swap 42 = .ok (.aload_n 0, 1) := by decide +kernel
theorem dX8_swap_43 : decode cX8_swap 43 = .ok (.invokevirtual 88, 3) := by decide +kernel
theorem dX8_swap_46 : decode cX8_swap 46 = .ok (.ireturn, 1) := by decide +kernel
theorem dX8_turn_0 : decode cX8_turn 0 = .ok (.aload_n 0, 1) := by decide +kernel
theorem dX8_turn_1 : decode cX8_turn 1 = .ok (.getfield 58, 3) := by decide +kernel
theorem dX8_turn_4 : decode cX8_turn 4 = .ok (.ifCond .ne 6, 3) := by decide +kernel
theorem dX8_turn_7 : decode cX8_turn 7 = .ok (.bipush (-103), 2) := by decide +kernel
theorem dX8_turn_9 : decode cX8_turn 9 = .ok (.ireturn, 1) := by decide +kernel
theorem dX8_turn_10 : decode cX8_turn 10 = .ok (.aload_n 0, 1) := by decide +kernel
theorem dX8_turn_11 : decode cX8_turn 11 = .ok (.getfield 27, 3) := by decide +kernel
theorem dX8_turn_14 : decode cX8_turn 14 = .ok (.invokevirtual 173, 3) := by decide +kernel
theorem dX8_turn_17 : decode cX8_turn 17 = .ok (.aload_n 0, 1) := by decide +kernel
theorem dX8_turn_18 : decode cX8_turn 18 = .ok (.invokevirtual 88, 3) := by decide +kernel
theorem dX8_turn_21 : decode cX8_turn 21 = .ok (.ireturn, 1) := by decide +kernel
theorem dX8_cost_0 : decode cX8_cost 0 = .ok (.iload_n 1, 1) := by decide +kernel
theorem dX8_cost_1 : decode cX8_cost 1 = .ok (.ifCond .lt 8, 3) := by decide +kernel
theorem dX8_cost_4 : decode cX8_cost 4 = .ok (.iload_n 1, 1) := by decide +kernel
theorem dX8_cost_5 : decode cX8_cost 5 = .ok (.iconst 5, 1) := by decide +kernel
theorem dX8_cost_6 : decode cX8_cost 6 = .ok (.if_icmp .lt 6, 3) := by decide +kernel
theorem dX8_cost_9 : decode cX8_cost 9 = .ok (.bipush (-102), 2) := by decide +kernel
theorem dX8_cost_11 : decode cX8_cost 11 = .ok (.ireturn, 1) := by decide +kernel
theorem dX8_cost_12 : decode cX8_cost 12 = .ok (.aload_n 0, 1) := by decide +kernel
theorem dX8_cost_13 : decode cX8_cost 13 = .ok (.getfield 58, 3) := by decide +kernel
theorem dX8_cost_16 : decode cX8_cost 16 = .ok (.ifCond .ne 6, 3) := by decide +kernel
theorem dX8_cost_19 : decode cX8_cost 19 = .ok (.bipush (-103), 2) := by decide +kernel
theorem dX8_cost_21 : decode cX8_cost 21 = .ok (.ireturn, 1) := by decide +kernel
theorem dX8_cost_22 : decode cX8_cost 22 = .ok (.iload_n 1, 1) := by decide +kernel
theorem dX8_cost_23 : decode cX8_cost 23 = .ok (.tableswitch 61 0 3 #[29, 37, 45, 53], 29) := by decide +kernel
theorem dX8_cost_52 : decode cX8_cost 52 = .ok (.aload_n 0, 1) := by decide +kernel
theorem dX8_cost_53 : decode cX8_cost 53 = .ok (.getfield 19, 3) := by decide +kernel
theorem dX8_cost_56 : decode cX8_cost 56 = .ok (.invokevirtual 176, 3) := by decide +kernel
theorem dX8_cost_59 : decode cX8_cost 59 = .ok (.ireturn, 1) := by decide +kernel
theorem dX8_cost_60 : decode cX8_cost 60 = .ok (.aload_n 0, 1) := by decide +kernel
theorem dX8_cost_61 : decode cX8_cost 61 = .ok (.getfield 19, 3) := by decide +kernel
theorem dX8_cost_64 : decode cX8_cost 64 = .ok (.invokevirtual 179, 3) := by decide +kernel
theorem dX8_cost_67 : decode cX8_cost 67 = .ok (.ireturn, 1) := by decide +kernel
theorem dX8_cost_68 : decode cX8_cost 68 = .ok (.aload_n 0, 1) := by decide +kernel
theorem dX8_cost_69 : decode cX8_cost 69 = .ok (.getfield 19, 3) := by decide +kernel
theorem dX8_cost_72 : decode cX8_cost 72 = .ok (.getfield 182, 3) := by decide +kernel
theorem dX8_cost_75 : decode cX8_cost 75 = .ok (.ireturn, 1) := by decide +kernel
theorem dX8_cost_76 : decode cX8_cost 76 = .ok (.aload_n 0, 1) := by decide +kernel
theorem dX8_cost_77 : decode cX8_cost 77 = .ok (.getfield 19, 3) := by decide +kernel
theorem dX8_cost_80 : decode cX8_cost 80 = .ok (.getfield 185, 3) := by decide +kernel
theorem dX8_cost_83 : decode cX8_cost 83 = .ok (.ireturn, 1) := by decide +kernel
theorem dX8_cost_84 : decode cX8_cost 84 = .ok (.aload_n 0, 1) := by decide +kernel
theorem dX8_cost_85 : decode cX8_cost 85 = .ok (.getfield 47, 3) := by decide +kernel
theorem dX8_cost_88 : decode cX8_cost 88 = .ok (.getfield 188, 3) := by decide +kernel
theorem dX8_cost_91 : decode cX8_cost 91 = .ok (.ireturn, 1) := by decide +kernel
theorem dX8_best_0 : decode cX8_best 0 = .ok (.iload_n 1, 1) := by decide +kernel
theorem dX8_best_1 : decode cX8_best 1 = .ok (.invokestatic 159, 3) := by decide +kernel
theorem dX8_best_4 : decode cX8_best 4 = .ok (.ifCond .ne 6, 3) := by decide +kernel
theorem dX8_best_7 : decode cX8_best 7 = .ok (.bipush (-102), 2) := by decide +kernel
theorem dX8_best_9 : decode cX8_best 9 = .ok (.ireturn, 1) := by decide +kernel
theorem dX8_best_10 : decode cX8_best 10 = .ok (.aload_n 0, 1) := by decide +kernel
theorem dX8_best_11 : decode cX8_best 11 = .ok (.getfield 58, 3) := by decide +kernel
theorem dX8_best_14 : decode cX8_best 14 = .ok (.ifCond .ne 6, 3) := by decide +kernel
theorem dX8_best_17 : decode cX8_best 17 = .ok (.bipush (-103), 2) := by decide +kernel
theorem dX8_best_19 : decode cX8_best 19 = .ok (.ireturn, 1) := by decide +kernel
theorem dX8_best_20 : decode cX8_best 20 = .ok (.aload_n 0, 1) := by decide +kernel
theorem dX8_best_21 : decode cX8_best 21 = .ok (.getfield 27, 3) := by decide +kernel
theorem dX8_best_24 : decode cX8_best 24 = .ok (.getfield 158, 3) := by decide +kernel
theorem dX8_best_27 : decode cX8_best 27 = .ok (.iconst 1, 1) := by decide +kernel
theorem dX8_best_28 : decode cX8_best 28 = .ok (.iaload, 1) := by decide +kernel
theorem dX8_best_29 : decode cX8_best 29 = .ok (.bipush 8, 2) := by decide +kernel
theorem dX8_best_31 : decode cX8_best 31 = .ok (.if_icmp .lt 6, 3) := by decide +kernel
theorem dX8_best_34 : decode cX8_best 34 = .ok (.bipush (-104), 2) := by decide +kernel
theorem dX8_best_36 : decode cX8_best 36 = .ok (.ireturn, 1) := by decide +kernel
theorem dX8_best_37 : decode cX8_best 37 = .ok (.iconst 0, 1) := by decide +kernel
theorem dX8_best_38 : decode cX8_best 38 = .ok (.istore_n 2, 1) := by decide +kernel
theorem dX8_best_39 : decode cX8_best 39 = .ok (.aload_n 0, 1) := by decide +kernel
theorem dX8_best_40 : decode cX8_best 40 = .ok (.iconst 0, 1) := by decide +kernel
theorem dX8_best_41 : decode cX8_best 41 = .ok (.iload_n 1, 1) := by decide +kernel
theorem dX8_best_42 : decode cX8_best 42 = .ok (.invokevirtual 191, 3) := by decide +kernel
theorem dX8_best_45 : decode cX8_best 45 = .ok (.istore_n 3, 1) := by decide +kernel
theorem dX8_best_46 : decode cX8_best 46 = .ok (.iconst 1, 1) := by decide +kernel
theorem dX8_best_47 : decode cX8_best 47 = .ok (.istore 4, 2) := by decide +kernel
theorem dX8_best_49 : decode cX8_best 49 = .ok (.iload 4, 2) := by decide +kernel
theorem dX8_best_51 : decode cX8_best 51 = .ok (.aload_n 0, 1) := by decide +kernel
theorem dX8_best_52 : decode cX8_best 52 = .ok (.getfield 27, 3) := by decide +kernel
theorem dX8_best_55 : decode cX8_best 55 = .ok (.getfield 158, 3) := by decide +kernel
theorem dX8_best_58 : decode cX8_best 58 = .ok (.iconst 1, 1) := by decide +kernel
theorem dX8_best_59 : decode cX8_best 59 = .ok (.iaload, 1) := by decide +kernel
theorem dX8_best_60 : decode cX8_best 60 = .ok (.if_icmp .gt 30, 3) := by decide +kernel
theorem dX8_best_63 : decode cX8_best 63 = .ok (.aload_n 0, 1) := by decide +kernel
theorem dX8_best_64 : decode cX8_best 64 = .ok (.iload 4, 2) := by decide +kernel
theorem dX8_best_66 : decode cX8_best 66 = .ok (.iload_n 1, 1) := by decide +kernel
theorem dX8_best_67 : decode cX8_best 67 = .ok (.invokevirtual 191, 3) := by decide +kernel
theorem dX8_best_70 : decode cX8_best 70 = .ok (.istore 5, 2) := by decide +kernel
theorem dX8_best_72 : decode cX8_best 72 = .ok (.iload 5, 2) := by decide +kernel
theorem dX8_best_74 : decode cX8_best 74 = .ok (.iload_n 3, 1) := by decide +kernel
theorem dX8_best_75 : decode cX8_best 75 = .ok (.if_icmp .ge 9, 3) := by decide +kernel
theorem dX8_best_78 : decode cX8_best 78 = .ok (.iload 5, 2) := by decide +kernel
theorem dX8_best_80 : decode cX8_best 80 = .ok (.istore_n 3, 1) := by decide +kernel
theorem dX8_best_81 : decode cX8_best 81 = .ok (.iload 4, 2) := by decide +kernel
theorem dX8_best_83 : decode cX8_best 83 = .ok (.istore_n 2, 1) := by decide +kernel
theorem dX8_best_84 : decode cX8_best 84 = .ok (.iinc 4 1, 3) := by decide +kernel
theorem dX8_best_87 : decode cX8_best 87 = .ok (.goto (-38), 3) := by decide +kernel
theorem dX8_best_90 : decode cX8_best 90 = .ok (.iload_n 2, 1) := by decide +kernel
theorem dX8_best_91 : decode cX8_best 91 = .ok (.ireturn, 1) := by decide +kernel
theorem dX8_all_0 : decode cX8_all 0 = .ok (.aload_n 0, 1) := by decide +kernel
theorem dX8_all_1 : decode cX8_all 1 = .ok (.getfield 58, 3) := by decide +kernel
theorem dX8_all_4 : decode cX8_all 4 = .ok (.ifCond .ne 7, 3) := by decide +kernel
theorem dX8_all_7 : decode cX8_all 7 = .ok (.ldc2_w 194, 3) := by decide +kernel
theorem dX8_all_10 : decode cX8_all 10 = .ok (.lreturn, 1) := by decide +kernel
theorem dX8_all_11 : decode cX8_all 11 = .ok (.aload_n 0, 1) := by decide +kernel
theorem dX8_all_12 : decode cX8_all 12 = .ok (.getfield 27, 3) := by decide +kernel
theorem dX8_all_15 : decode cX8_all 15 = .ok (.invokevirtual 91, 3) := by decide +kernel
theorem dX8_all_18 : decode cX8_all 18 = .ok (.istore_n 1, 1) := by decide +kernel
theorem dX8_all_19 : decode cX8_all 19 = .ok (.iload_n 1, 1) := by decide +kernel
theorem dX8_all_20 : decode cX8_all 20 = .ok (.ifCond .ne 7, 3) := by decide +kernel
theorem dX8_all_23 : decode cX8_all 23 = .ok (.dconst 1, 1) := by decide +kernel
theorem dX8_all_24 : decode cX8_all 24 = .ok (.goto 16, 3) := by decide +kernel
theorem dX8_all_27 : decode cX8_all 27 = .ok (.iconst 2, 1) := by decide +kernel
theorem dX8_all_28 : decode cX8_all 28 = .ok (.aload_n 0, 1) := by decide +kernel
theorem dX8_all_29 : decode cX8_all 29 = .ok (.getfield 19, 3) := by decide +kernel
theorem dX8_all_32 : decode cX8_all 32 = .ok (.invokevirtual 196, 3) := by decide +kernel
theorem dX8_all_35 : decode cX8_all 35 = .ok (.imul, 1) := by decide +kernel
theorem dX8_all_36 : decode cX8_all 36 = .ok (.i2d, 1) := by decide +kernel
theorem dX8_all_37 : decode cX8_all 37 = .ok (.iload_n 1, 1) := by decide +kernel
theorem dX8_all_38 : decode cX8_all 38 = .ok (.i2d, 1) := by decide +kernel
theorem dX8_all_39 : decode cX8_all 39 = .ok (.ddiv, 1) := by decide +kernel
theorem dX8_all_40 : decode cX8_all 40 = .ok (.invokestatic 199, 3) := by decide +kernel
theorem dX8_all_43 : decode cX8_all 43 = .ok (.lreturn, 1) := by decide +kernel
theorem dX8_drawn_0 : decode cX8_drawn 0 = .ok (.iload_n 1, 1) := by decide +kernel
theorem dX8_drawn_1 : decode cX8_drawn 1 = .ok (.iconst 1, 1) := by decide +kernel
theorem dX8_drawn_2 : decode cX8_drawn 2 = .ok (.if_icmp .lt 22, 3) := by decide +kernel
theorem dX8_drawn_5 : decode cX8_drawn 5 = .ok (.iload_n 1, 1) := by decide +kernel
theorem dX8_drawn_6 : decode cX8_drawn 6 = .ok (.bipush 30, 2) := by decide +kernel
theorem dX8_drawn_8 : decode cX8_drawn 8 = .ok (.if_icmp .gt 16, 3) := by decide +kernel
theorem dX8_drawn_11 : decode cX8_drawn 11 = .ok (.iload_n 2, 1) := by decide +kernel
theorem dX8_drawn_12 : decode cX8_drawn 12 = .ok (.ifCond .lt 12, 3) := by decide +kernel
theorem dX8_drawn_15 : decode cX8_drawn 15 = .ok (.iload_n 3, 1) := by decide +kernel
theorem dX8_drawn_16 : decode cX8_drawn 16 = .ok (.ifCond .lt 8, 3) := by decide +kernel
theorem dX8_drawn_19 : decode cX8_drawn 19 = .ok (.iload_n 3, 1) := by decide +kernel
theorem dX8_drawn_20 : decode cX8_drawn 20 = .ok (.iconst 3, 1) := by decide +kernel
theorem dX8_drawn_21 : decode cX8_drawn 21 = .ok (.if_icmp .lt 6, 3) := by decide +kernel
theorem dX8_drawn_24 : decode cX8_drawn 24 = .ok (.bipush (-102), 2) := by decide +kernel
theorem dX8_drawn_26 : decode cX8_drawn 26 = .ok (.ireturn, 1) := by decide +kernel
theorem dX8_drawn_27 : decode cX8_drawn 27 = .ok (.iload_n 2, 1) := by decide +kernel
theorem dX8_drawn_28 : decode cX8_drawn 28 = .ok (.istore 4, 2) := by decide +kernel
theorem dX8_drawn_30 : decode cX8_drawn 30 = .ok (.iconst 0, 1) := by decide +kernel
theorem dX8_drawn_31 : decode cX8_drawn 31 = .ok (.istore 5, 2) := by decide +kernel
theorem dX8_drawn_33 : decode cX8_drawn 33 = .ok (.iconst 0, 1) := by decide +kernel
theorem dX8_drawn_34 : decode cX8_drawn 34 = .ok (.istore 6, 2) := by decide +kernel
theorem dX8_drawn_36 : decode cX8_drawn 36 = .ok (.iconst 0, 1) := by decide +kernel
theorem dX8_drawn_37 : decode cX8_drawn 37 = .ok (.istore 7, 2) := by decide +kernel
theorem dX8_drawn_39 : decode cX8_drawn 39 = .ok (.iload 7, 2) := by decide +kernel
theorem dX8_drawn_41 : decode cX8_drawn 41 = .ok (.iload_n 1, 1) := by decide +kernel
theorem dX8_drawn_42 : decode cX8_drawn 42 = .ok (.if_icmp .ge 41, 3) := by decide +kernel
theorem dX8_drawn_45 : decode cX8_drawn 45 = .ok (.aload_n 0, 1) := by decide +kernel
theorem dX8_drawn_46 : decode cX8_drawn 46 = .ok (.iload 4, 2) := by decide +kernel
theorem dX8_drawn_48 : decode cX8_drawn 48 = .ok (.invokevirtual 203, 3) := by decide +kernel
theorem dX8_drawn_51 : decode cX8_drawn 51 = .ok (.istore 4, 2) := by decide +kernel
theorem dX8_drawn_53 : decode cX8_drawn 53 = .ok (.iload 5, 2) := by decide +kernel
theorem dX8_drawn_55 : decode cX8_drawn 55 = .ok (.aload_n 0, 1) := by decide +kernel
theorem dX8_drawn_56 : decode cX8_drawn 56 = .ok (.getfield 28, 3) := by decide +kernel
theorem dX8_drawn_59 : decode cX8_drawn 59 = .ok (.invokevirtual 176, 3) := by decide +kernel
theorem dX8_drawn_62 : decode cX8_drawn 62 = .ok (.iadd, 1) := by decide +kernel
theorem dX8_drawn_63 : decode cX8_drawn 63 = .ok (.istore 5, 2) := by decide +kernel
theorem dX8_drawn_65 : decode cX8_drawn 65 = .ok (.iload 6, 2) := by decide +kernel
theorem dX8_drawn_67 : decode cX8_drawn 67 = .ok (.aload_n 0, 1) := by decide +kernel
theorem dX8_drawn_68 : decode cX8_drawn 68 = .ok (.getfield 28, 3) := by decide +kernel
theorem dX8_drawn_71 : decode cX8_drawn 71 = .ok (.getfield 182, 3) := by decide +kernel
theorem dX8_drawn_74 : decode cX8_drawn 74 = .ok (.iadd, 1) := by decide +kernel
theorem dX8_drawn_75 : decode cX8_drawn 75 = .ok (.istore 6, 2) := by decide +kernel
theorem dX8_drawn_77 : decode cX8_drawn 77 = .ok (.iinc 7 1, 3) := by decide +kernel
theorem dX8_drawn_80 : decode cX8_drawn 80 = .ok (.goto (-41), 3) := by decide +kernel
theorem dX8_drawn_83 : decode cX8_drawn 83 = .ok (.iload_n 3, 1) := by decide +kernel
theorem dX8_drawn_84 : decode cX8_drawn 84 = .ok (.ifCond .ne 8, 3) := by decide +kernel
theorem dX8_drawn_87 : decode cX8_drawn 87 = .ok (.iload 5, 2) := by decide +kernel
theorem dX8_drawn_89 : decode cX8_drawn 89 = .ok (.goto 15, 3) := by decide +kernel
theorem dX8_drawn_92 : decode cX8_drawn 92 = .ok (.iload_n 3, 1) := by decide +kernel
theorem dX8_drawn_93 : decode cX8_drawn 93 = .ok (.iconst 1, 1) := by decide +kernel
theorem dX8_drawn_94 : decode cX8_drawn 94 = .ok (.if_icmp .ne 8, 3) := by decide +kernel
theorem dX8_drawn_97 : decode cX8_drawn 97 = .ok (.iload 6, 2) := by decide +kernel
theorem dX8_drawn_99 : decode cX8_drawn 99 = .ok (.goto 5, 3) := by decide +kernel
theorem dX8_drawn_102 : decode cX8_drawn 102 = .ok (.iload 4, 2) := by decide +kernel
theorem dX8_drawn_104 : decode cX8_drawn 104 = .ok (.ireturn, 1) := by decide +kernel
theorem dX8_image_0 : decode cX8_image 0 = .ok (.aload_n 0, 1) := by decide +kernel
theorem dX8_image_1 : decode cX8_image 1 = .ok (.getfield 58, 3) := by decide +kernel
theorem dX8_image_4 : decode cX8_image 4 = .ok (.ifCond .ne 6, 3) := by decide +kernel
theorem dX8_image_7 : decode cX8_image 7 = .ok (.bipush (-103), 2) := by decide +kernel
theorem dX8_image_9 : decode cX8_image 9 = .ok (.ireturn, 1) := by decide +kernel
theorem dX8_image_10 : decode cX8_image 10 = .ok (.aload_n 0, 1) := by decide +kernel
theorem dX8_image_11 : decode cX8_image 11 = .ok (.getfield 34, 3) := by decide +kernel
theorem dX8_image_14 : decode cX8_image 14 = .ok (.aload_n 0, 1) := by decide +kernel
theorem dX8_image_15 : decode cX8_image 15 = .ok (.getfield 27, 3) := by decide +kernel
theorem dX8_image_18 : decode cX8_image 18 = .ok (.invokevirtual 206, 3) := by decide +kernel
theorem dX8_image_21 : decode cX8_image 21 = .ok (.aload_n 0, 1) := by decide +kernel
theorem dX8_image_22 : decode cX8_image 22 = .ok (.iconst 1, 1) := by decide +kernel
theorem dX8_image_23 : decode cX8_image 23 = .ok (.putfield 62, 3) := by decide +kernel
theorem dX8_image_26 : decode cX8_image 26 = .ok (.aload_n 0, 1) := by decide +kernel
theorem dX8_image_27 : decode cX8_image 27 = .ok (.getfield 27, 3) := by decide +kernel
theorem dX8_image_30 : decode cX8_image 30 = .ok (.invokevirtual 91, 3) := by decide +kernel
theorem dX8_image_33 : decode cX8_image 33 = .ok (.ireturn, 1) := by decide +kernel
theorem dX8_restore_0 : decode cX8_restore 0 = .ok (.aload_n 0, 1) := by decide +kernel
theorem dX8_restore_1 : decode cX8_restore 1 = .ok (.getfield 62, 3) := by decide +kernel
theorem dX8_restore_4 : decode cX8_restore 4 = .ok (.ifCond .ne 6, 3) := by decide +kernel
theorem dX8_restore_7 : decode cX8_restore 7 = .ok (.bipush (-103), 2) := by decide +kernel
theorem dX8_restore_9 : decode cX8_restore 9 = .ok (.ireturn, 1) := by decide +kernel
theorem dX8_restore_10 : decode cX8_restore 10 = .ok (.aload_n 0, 1) := by decide +kernel
theorem dX8_restore_11 : decode cX8_restore 11 = .ok (.getfield 27, 3) := by decide +kernel
theorem dX8_restore_14 : decode cX8_restore 14 = .ok (.aload_n 0, 1) := by decide +kernel
theorem dX8_restore_15 : decode cX8_restore 15 = .ok (.getfield 34, 3) := by decide +kernel
theorem dX8_restore_18 : decode cX8_restore 18 = .ok (.invokevirtual 206, 3) := by decide +kernel
theorem dX8_restore_21 : decode cX8_restore 21 = .ok (.aload_n 0, 1) := by decide +kernel
theorem dX8_restore_22 : decode cX8_restore 22 = .ok (.invokevirtual 88, 3) := by decide +kernel
theorem dX8_restore_25 : decode cX8_restore 25 = .ok (.pop, 1) := by decide +kernel
theorem dX8_restore_26 : decode cX8_restore 26 = .ok (.aload_n 0, 1) := by decide +kernel
theorem dX8_restore_27 : decode cX8_restore 27 = .ok (.getfield 27, 3) := by decide +kernel
theorem dX8_restore_30 : decode cX8_restore 30 = .ok (.invokevirtual 91, 3) := by decide +kernel
theorem dX8_restore_33 : decode cX8_restore 33 = .ok (.ireturn, 1) := by decide +kernel
theorem dX8_count_0 : decode cX8_count 0 = .ok (.iload_n 1, 1) := by decide +kernel
theorem dX8_count_1 : decode cX8_count 1 = .ok (.tableswitch 109 0 10 #[59, 59, 69, 77, 77, 77, 77, 77, 88, 96, 104], 59) := by decide +kernel
theorem dX8_count_60 : decode cX8_count 60 = .ok (.aload_n 0, 1) := by decide +kernel
theorem dX8_count_61 : decode cX8_count 61 = .ok (.getfield 27, 3) := by decide +kernel
theorem dX8_count_64 : decode cX8_count 64 = .ok (.getfield 158, 3) := by decide +kernel
theorem dX8_count_67 : decode cX8_count 67 = .ok (.iload_n 1, 1) := by decide +kernel
theorem dX8_count_68 : decode cX8_count 68 = .ok (.iaload, 1) := by decide +kernel
theorem dX8_count_69 : decode cX8_count 69 = .ok (.ireturn, 1) := by decide +kernel
theorem dX8_count_70 : decode cX8_count 70 = .ok (.aload_n 0, 1) := by decide +kernel
theorem dX8_count_71 : decode cX8_count 71 = .ok (.getfield 47, 3) := by decide +kernel
theorem dX8_count_74 : decode cX8_count 74 = .ok (.getfield 209, 3) := by decide +kernel
theorem dX8_count_77 : decode cX8_count 77 = .ok (.ireturn, 1) := by decide +kernel
theorem dX8_count_78 : decode cX8_count 78 = .ok (.aload_n 0, 1) := by decide +kernel
theorem dX8_count_79 : decode cX8_count 79 = .ok (.getfield 47, 3) := by decide +kernel
theorem dX8_count_82 : decode cX8_count 82 = .ok (.iload_n 1, 1) := by decide +kernel
theorem dX8_count_83 : decode cX8_count 83 = .ok (.iconst 3, 1) := by decide +kernel
theorem dX8_count_84 : decode cX8_count 84 = .ok (.isub, 1) := by decide +kernel
theorem dX8_count_85 : decode cX8_count 85 = .ok (.invokevirtual 210, 3) := by decide +kernel
theorem dX8_count_88 : decode cX8_count 88 = .ok (.ireturn, 1) := by decide +kernel
theorem dX8_count_89 : decode cX8_count 89 = .ok (.aload_n 0, 1) := by decide +kernel
theorem dX8_count_90 : decode cX8_count 90 = .ok (.getfield 54, 3) := by decide +kernel
theorem dX8_count_93 : decode cX8_count 93 = .ok (.invokevirtual 213, 3) := by decide +kernel
theorem dX8_count_96 : decode cX8_count 96 = .ok (.ireturn, 1) := by decide +kernel
theorem dX8_count_97 : decode cX8_count 97 = .ok (.aload_n 0, 1) := by decide +kernel
theorem dX8_count_98 : decode cX8_count 98 = .ok (.getfield 10, 3) := by decide +kernel
theorem dX8_count_101 : decode cX8_count 101 = .ok (.getfield 73, 3) := by decide +kernel
theorem dX8_count_104 : decode cX8_count 104 = .ok (.ireturn, 1) := by decide +kernel
theorem dX8_count_105 : decode cX8_count 105 = .ok (.aload_n 0, 1) := by decide +kernel
theorem dX8_count_106 : decode cX8_count 106 = .ok (.getfield 65, 3) := by decide +kernel
theorem dX8_count_109 : decode cX8_count 109 = .ok (.ireturn, 1) := by decide +kernel
theorem dX8_count_110 : decode cX8_count 110 = .ok (.bipush (-102), 2) := by decide +kernel
theorem dX8_count_112 : decode cX8_count 112 = .ok (.ireturn, 1) := by decide +kernel
theorem dX8_digest_0 : decode cX8_digest 0 = .ok (.aload_n 0, 1) := by decide +kernel
theorem dX8_digest_1 : decode cX8_digest 1 = .ok (.aload_n 0, 1) := by decide +kernel
theorem dX8_digest_2 : decode cX8_digest 2 = .ok (.ldc2_w 214, 3) := by decide +kernel
theorem dX8_digest_5 : decode cX8_digest 5 = .ok (.invokevirtual 216, 3) := by decide +kernel
theorem dX8_digest_8 : decode cX8_digest 8 = .ok (.invokevirtual 220, 3) := by decide +kernel
theorem dX8_digest_11 : decode cX8_digest 11 = .ok (.lstore_n 1, 1) := by decide +kernel
theorem dX8_digest_12 : decode cX8_digest 12 = .ok (.aload_n 0, 1) := by decide +kernel
theorem dX8_digest_13 : decode cX8_digest 13 = .ok (.getfield 58, 3) := by decide +kernel
theorem dX8_digest_16 : decode cX8_digest 16 = .ok (.ifCond .eq 40, 3) := by decide +kernel
theorem dX8_digest_19 : decode cX8_digest 19 = .ok (.iconst 0, 1) := by decide +kernel
theorem dX8_digest_20 : decode cX8_digest 20 = .ok (.istore_n 3, 1) := by decide +kernel
theorem dX8_digest_21 : decode cX8_digest 21 = .ok (.iload_n 3, 1) := by decide +kernel
theorem dX8_digest_22 : decode cX8_digest 22 = .ok (.iconst 5, 1) := by decide +kernel
theorem dX8_digest_23 : decode cX8_digest 23 = .ok (.if_icmp .ge 22, 3) := by decide +kernel
theorem dX8_digest_26 : decode cX8_digest 26 = .ok (.ldc2_w 223, 3) := by decide +kernel
theorem dX8_digest_29 : decode cX8_digest 29 = .ok (.lload_n 1, 1) := by decide +kernel
theorem dX8_digest_30 : decode cX8_digest 30 = .ok (.lmul, 1) := by decide +kernel
theorem dX8_digest_31 : decode cX8_digest 31 = .ok (.aload_n 0, 1) := by decide +kernel
theorem dX8_digest_32 : decode cX8_digest 32 = .ok (.iload_n 3, 1) := by decide +kernel
theorem dX8_digest_33 : decode cX8_digest 33 = .ok (.invokevirtual 225, 3) := by decide +kernel
theorem dX8_digest_36 : decode cX8_digest 36 = .ok (.i2l, 1) := by decide +kernel
theorem dX8_digest_37 : decode cX8_digest 37 = .ok (.ladd, 1) := by decide +kernel
theorem dX8_digest_38 : decode cX8_digest 38 = .ok (.lstore_n 1, 1) := by decide +kernel
theorem dX8_digest_39 : decode cX8_digest 39 = .ok (.iinc 3 1, 3) := by decide +kernel
theorem dX8_digest_42 : decode cX8_digest 42 = .ok (.goto (-21), 3) := by decide +kernel
theorem dX8_digest_45 : decode cX8_digest 45 = .ok (.ldc2_w 223, 3) := by decide +kernel
theorem dX8_digest_48 : decode cX8_digest 48 = .ok (.lload_n 1, 1) := by decide +kernel
theorem dX8_digest_49 : decode cX8_digest 49 = .ok (.lmul, 1) := by decide +kernel
theorem dX8_digest_50 : decode cX8_digest 50 = .ok (.aload_n 0, 1) := by decide +kernel
theorem dX8_digest_51 : decode cX8_digest 51 = .ok (.invokevirtual 228, 3) := by decide +kernel
theorem dX8_digest_54 : decode cX8_digest 54 = .ok (.ladd, 1) := by decide +kernel
theorem dX8_digest_55 : decode cX8_digest 55 = .ok (.lstore_n 1, 1) := by decide +kernel
theorem dX8_digest_56 : decode cX8_digest 56 = .ok (.iconst 0, 1) := by decide +kernel
theorem dX8_digest_57 : decode cX8_digest 57 = .ok (.istore_n 3, 1) := by decide +kernel
theorem dX8_digest_58 : decode cX8_digest 58 = .ok (.iload_n 3, 1) := by decide +kernel
theorem dX8_digest_59 : decode cX8_digest 59 = .ok (.iconst 5, 1) := by decide +kernel
theorem dX8_digest_60 : decode cX8_digest 60 = .ok (.if_icmp .ge 39, 3) := by decide +kernel
theorem dX8_digest_63 : decode cX8_digest 63 = .ok (.iconst 0, 1) := by decide +kernel
theorem dX8_digest_64 : decode cX8_digest 64 = .ok (.istore 4, 2) := by decide +kernel
theorem dX8_digest_66 : decode cX8_digest 66 = .ok (.iload 4, 2) := by decide +kernel
theorem dX8_digest_68 : decode cX8_digest 68 = .ok (.iconst 3, 1) := by decide +kernel
theorem dX8_digest_69 : decode cX8_digest 69 = .ok (.if_icmp .ge 24, 3) := by decide +kernel
theorem dX8_digest_72 : decode cX8_digest 72 = .ok (.ldc2_w 223, 3) := by decide +kernel
theorem dX8_digest_75 : decode cX8_digest 75 = .ok (.lload_n 1, 1) := by decide +kernel
theorem dX8_digest_76 : decode cX8_digest 76 = .ok (.lmul, 1) := by decide +kernel
theorem dX8_digest_77 : decode cX8_digest 77 = .ok (.aload_n 0, 1) := by decide +kernel
theorem dX8_digest_78 : decode cX8_digest 78 = .ok (.iload_n 3, 1) := by decide +kernel
theorem dX8_digest_79 : decode cX8_digest 79 = .ok (.iload 4, 2) := by decide +kernel
theorem dX8_digest_81 : decode cX8_digest 81 = .ok (.invokevirtual 232, 3) := by decide +kernel
theorem dX8_digest_84 : decode cX8_digest 84 = .ok (.i2l, 1) := by decide +kernel
theorem dX8_digest_85 : decode cX8_digest 85 = .ok (.ladd, 1) := by decide +kernel
theorem dX8_digest_86 : decode cX8_digest 86 = .ok (.lstore_n 1, 1) := by decide +kernel
theorem dX8_digest_87 : decode cX8_digest 87 = .ok (.iinc 4 1, 3) := by decide +kernel
theorem dX8_digest_90 : decode cX8_digest 90 = .ok (.goto (-24), 3) := by decide +kernel
theorem dX8_digest_93 : decode cX8_digest 93 = .ok (.iinc 3 1, 3) := by decide +kernel
theorem dX8_digest_96 : decode cX8_digest 96 = .ok (.goto (-38), 3) := by decide +kernel
theorem dX8_digest_99 : decode cX8_digest 99 = .ok (.iconst 0, 1) := by decide +kernel
theorem dX8_digest_100 : decode cX8_digest 100 = .ok (.istore_n 3, 1) := by decide +kernel
theorem dX8_digest_101 : decode cX8_digest 101 = .ok (.iload_n 3, 1) := by decide +kernel
theorem dX8_digest_102 : decode cX8_digest 102 = .ok (.aload_n 0, 1) := by decide +kernel
theorem dX8_digest_103 : decode cX8_digest 103 = .ok (.getfield 10, 3) := by decide +kernel
theorem dX8_digest_106 : decode cX8_digest 106 = .ok (.getfield 73, 3) := by decide +kernel
theorem dX8_digest_109 : decode cX8_digest 109 = .ok (.if_icmp .ge 26, 3) := by decide +kernel
theorem dX8_digest_112 : decode cX8_digest 112 = .ok (.ldc2_w 223, 3) := by decide +kernel
theorem dX8_digest_115 : decode cX8_digest 115 = .ok (.lload_n 1, 1) := by decide +kernel
theorem dX8_digest_116 : decode cX8_digest 116 = .ok (.lmul, 1) := by decide +kernel
theorem dX8_digest_117 : decode cX8_digest 117 = .ok (.aload_n 0, 1) := by decide +kernel
theorem dX8_digest_118 : decode cX8_digest 118 = .ok (.getfield 10, 3) := by decide +kernel
theorem dX8_digest_121 : decode cX8_digest 121 = .ok (.getfield 235, 3) := by decide +kernel
theorem dX8_digest_124 : decode cX8_digest 124 = .ok (.iload_n 3, 1) := by decide +kernel
theorem dX8_digest_125 : decode cX8_digest 125 = .ok (.iaload, 1) := by decide +kernel
theorem dX8_digest_126 : decode cX8_digest 126 = .ok (.i2l, 1) := by decide +kernel
theorem dX8_digest_127 : decode cX8_digest 127 = .ok (.ladd, 1) := by decide +kernel
theorem dX8_digest_128 : decode cX8_digest 128 = .ok (.lstore_n 1, 1) := by decide +kernel
theorem dX8_digest_129 : decode cX8_digest 129 = .ok (.iinc 3 1, 3) := by decide +kernel
theorem dX8_digest_132 : decode cX8_digest 132 = .ok (.goto (-31), 3) := by decide +kernel
theorem dX8_digest_135 : decode cX8_digest 135 = .ok (.iconst 0, 1) := by decide +kernel
theorem dX8_digest_136 : decode cX8_digest 136 = .ok (.istore_n 3, 1) := by decide +kernel
theorem dX8_digest_137 : decode cX8_digest 137 = .ok (.iload_n 3, 1) := by decide +kernel
theorem dX8_digest_138 : decode cX8_digest 138 = .ok (.bipush 11, 2) := by decide +kernel
theorem dX8_digest_140 : decode cX8_digest 140 = .ok (.if_icmp .ge 22, 3) := by decide +kernel
theorem dX8_digest_143 : decode cX8_digest 143 = .ok (.ldc2_w 223, 3) := by decide +kernel
theorem dX8_digest_146 : decode cX8_digest 146 = .ok (.lload_n 1, 1) := by decide +kernel
theorem dX8_digest_147 : decode cX8_digest 147 = .ok (.lmul, 1) := by decide +kernel
theorem dX8_digest_148 : decode cX8_digest 148 = .ok (.aload_n 0, 1) := by decide +kernel
theorem dX8_digest_149 : decode cX8_digest 149 = .ok (.iload_n 3, 1) := by decide +kernel
theorem dX8_digest_150 : decode cX8_digest 150 = .ok (.invokevirtual 238, 3) := by decide +kernel
theorem dX8_digest_153 : decode cX8_digest 153 = .ok (.i2l, 1) := by decide +kernel
theorem dX8_digest_154 : decode cX8_digest 154 = .ok (.ladd, 1) := by decide +kernel
theorem dX8_digest_155 : decode cX8_digest 155 = .ok (.lstore_n 1, 1) := by decide +kernel
theorem dX8_digest_156 : decode cX8_digest 156 = .ok (.iinc 3 1, 3) := by decide +kernel
theorem dX8_digest_159 : decode cX8_digest 159 = .ok (.goto (-22), 3) := by decide +kernel
theorem dX8_digest_162 : decode cX8_digest 162 = .ok (.lload_n 1, 1) := by decide +kernel
theorem dX8_digest_163 : decode cX8_digest 163 = .ok (.lreturn, 1) := by decide +kernel
theorem dX8_digestOfLines_0 : decode cX8_digestOfLines 0 = .ok (.lload_n 1, 1) := by decide +kernel
theorem dX8_digestOfLines_1 : decode cX8_digestOfLines 1 = .ok (.lstore_n 3, 1) := by decide +kernel
theorem dX8_digestOfLines_2 : decode cX8_digestOfLines 2 = .ok (.iconst 0, 1) := by decide +kernel
theorem dX8_digestOfLines_3 : decode cX8_digestOfLines 3 = .ok (.istore 5, 2) := by decide +kernel
theorem dX8_digestOfLines_5 : decode cX8_digestOfLines 5 = .ok (.iload 5, 2) := by decide +kernel
theorem dX8_digestOfLines_7 : decode cX8_digestOfLines 7 = .ok (.iconst 2, 1) := by decide +kernel
theorem dX8_digestOfLines_8 : decode cX8_digestOfLines 8 = .ok (.if_icmp .ge 67, 3) := by decide +kernel
theorem dX8_digestOfLines_11 : decode cX8_digestOfLines 11 = .ok (.iconst 0, 1) := by decide +kernel
theorem dX8_digestOfLines_12 : decode cX8_digestOfLines 12 = .ok (.istore 6, 2) := by decide +kernel
theorem dX8_digestOfLines_14 : decode cX8_digestOfLines 14 = .ok (.iload 6, 2) := by decide +kernel
theorem dX8_digestOfLines_16 : decode cX8_digestOfLines 16 = .ok (.aload_n 0, 1) := by decide +kernel
theorem dX8_digestOfLines_17 : decode cX8_digestOfLines 17 = .ok (.getfield 27, 3) := by decide +kernel
theorem dX8_digestOfLines_20 : decode cX8_digestOfLines 20 = .ok (.getfield 158, 3) := by decide +kernel
theorem dX8_digestOfLines_23 : decode cX8_digestOfLines 23 = .ok (.iload 5, 2) := by decide +kernel
theorem dX8_digestOfLines_25 : decode cX8_digestOfLines 25 = .ok (.iaload, 1) := by decide +kernel
theorem dX8_digestOfLines_26 : decode cX8_digestOfLines 26 = .ok (.if_icmp .ge 43, 3) := by decide +kernel
theorem dX8_digestOfLines_29 : decode cX8_digestOfLines 29 = .ok (.iconst 0, 1) := by decide +kernel
theorem dX8_digestOfLines_30 : decode cX8_digestOfLines 30 = .ok (.istore 7, 2) := by decide +kernel
theorem dX8_digestOfLines_32 : decode cX8_digestOfLines 32 = .ok (.iload 7, 2) := by decide +kernel
theorem dX8_digestOfLines_34 : decode cX8_digestOfLines 34 = .ok (.bipush 6, 2) := by decide +kernel
theorem dX8_digestOfLines_36 : decode cX8_digestOfLines 36 = .ok (.if_icmp .ge 27, 3) := by decide +kernel
theorem dX8_digestOfLines_39 : decode cX8_digestOfLines 39 = .ok (.ldc2_w 223, 3) := by decide +kernel
theorem dX8_digestOfLines_42 : decode cX8_digestOfLines 42 = .ok (.lload_n 3, 1) := by decide +kernel
theorem dX8_digestOfLines_43 : decode cX8_digestOfLines 43 = .ok (.lmul, 1) := by decide +kernel
theorem dX8_digestOfLines_44 : decode cX8_digestOfLines 44 = .ok (.aload_n 0, 1) := by decide +kernel
theorem dX8_digestOfLines_45 : decode cX8_digestOfLines 45 = .ok (.iload 5, 2) := by decide +kernel
theorem dX8_digestOfLines_47 : decode cX8_digestOfLines 47 = .ok (.iload 6, 2) := by decide +kernel
theorem dX8_digestOfLines_49 : decode cX8_digestOfLines 49 = .ok (.iload 7, 2) := by decide +kernel
theorem dX8_digestOfLines_51 : decode cX8_digestOfLines 51 = .ok (.invokevirtual 241, 3) := by decide +kernel
theorem dX8_digestOfLines_54 : decode cX8_digestOfLines 54 = .ok (.i2l, 1) := by decide +kernel
theorem dX8_digestOfLines_55 : decode cX8_digestOfLines 55 = .ok (.ladd, 1) := by decide +kernel
theorem dX8_digestOfLines_56 : decode cX8_digestOfLines 56 = .ok (.lstore_n 3, 1) := by decide +kernel
theorem dX8_digestOfLines_57 : decode cX8_digestOfLines 57 = .ok (.iinc 7 1, 3) := by decide +kernel
theorem dX8_digestOfLines_60 : decode cX8_digestOfLines 60 = .ok (.goto (-28), 3) := by decide +kernel
theorem dX8_digestOfLines_63 : decode cX8_digestOfLines 63 = .ok (.iinc 6 1, 3) := by decide +kernel
theorem dX8_digestOfLines_66 : decode cX8_digestOfLines 66 = .ok (.goto (-52), 3) := by decide +kernel
theorem dX8_digestOfLines_69 : decode cX8_digestOfLines 69 = .ok (.iinc 5 1, 3) := by decide +kernel
theorem dX8_digestOfLines_72 : decode cX8_digestOfLines 72 = .ok (.goto (-67), 3) := by decide +kernel
theorem dX8_digestOfLines_75 : decode cX8_digestOfLines 75 = .ok (.lload_n 3, 1) := by decide +kernel
theorem dX8_digestOfLines_76 : decode cX8_digestOfLines 76 = .ok (.lreturn, 1) := by decide +kernel
theorem dX8_digestOfScript_0 : decode cX8_digestOfScript 0 = .ok (.lload_n 1, 1) := by decide +kernel
theorem dX8_digestOfScript_1 : decode cX8_digestOfScript 1 = .ok (.lstore_n 3, 1) := by decide +kernel
theorem dX8_digestOfScript_2 : decode cX8_digestOfScript 2 = .ok (.iconst 0, 1) := by decide +kernel
theorem dX8_digestOfScript_3 : decode cX8_digestOfScript 3 = .ok (.istore 5, 2) := by decide +kernel
theorem dX8_digestOfScript_5 : decode cX8_digestOfScript 5 = .ok (.iload 5, 2) := by decide +kernel
theorem dX8_digestOfScript_7 : decode cX8_digestOfScript 7 = .ok (.aload_n 0, 1) := by decide +kernel
theorem dX8_digestOfScript_8 : decode cX8_digestOfScript 8 = .ok (.getfield 47, 3) := by decide +kernel
theorem dX8_digestOfScript_11 : decode cX8_digestOfScript 11 = .ok (.getfield 209, 3) := by decide +kernel
theorem dX8_digestOfScript_14 : decode cX8_digestOfScript 14 = .ok (.if_icmp .ge 40, 3) := by decide +kernel
theorem dX8_digestOfScript_17 : decode cX8_digestOfScript 17 = .ok (.iconst 0, 1) := by decide +kernel
theorem dX8_digestOfScript_18 : decode cX8_digestOfScript 18 = .ok (.istore 6, 2) := by decide +kernel
theorem dX8_digestOfScript_20 : decode cX8_digestOfScript 20 = .ok (.iload 6, 2) := by decide +kernel
theorem dX8_digestOfScript_22 : decode cX8_digestOfScript 22 = .ok (.iconst 5, 1) := by decide +kernel
theorem dX8_digestOfScript_23 : decode cX8_digestOfScript 23 = .ok (.if_icmp .ge 25, 3) := by decide +kernel
theorem dX8_digestOfScript_26 : decode cX8_digestOfScript 26 = .ok (.ldc2_w 223, 3) := by decide +kernel
theorem dX8_digestOfScript_29 : decode cX8_digestOfScript 29 = .ok (.lload_n 3, 1) := by decide +kernel
theorem dX8_digestOfScript_30 : decode cX8_digestOfScript 30 = .ok (.lmul, 1) := by decide +kernel
theorem dX8_digestOfScript_31 : decode cX8_digestOfScript 31 = .ok (.aload_n 0, 1) := by decide +kernel
theorem dX8_digestOfScript_32 : decode cX8_digestOfScript 32 = .ok (.iload 5, 2) := by decide +kernel
theorem dX8_digestOfScript_34 : decode cX8_digestOfScript 34 = .ok (.iload 6, 2) := by decide +kernel
theorem dX8_digestOfScript_36 : decode cX8_digestOfScript 36 = .ok (.invokevirtual 245, 3) := by decide +kernel
theorem dX8_digestOfScript_39 : decode cX8_digestOfScript 39 = .ok (.i2l, 1) := by decide +kernel
theorem dX8_digestOfScript_40 : decode cX8_digestOfScript 40 = .ok (.ladd, 1) := by decide +kernel
theorem dX8_digestOfScript_41 : decode cX8_digestOfScript 41 = .ok (.lstore_n 3, 1) := by decide +kernel
theorem dX8_digestOfScript_42 : decode cX8_digestOfScript 42 = .ok (.iinc 6 1, 3) := by decide +kernel
theorem dX8_digestOfScript_45 : decode cX8_digestOfScript 45 = .ok (.goto (-25), 3) := by decide +kernel
theorem dX8_digestOfScript_48 : decode cX8_digestOfScript 48 = .ok (.iinc 5 1, 3) := by decide +kernel
theorem dX8_digestOfScript_51 : decode cX8_digestOfScript 51 = .ok (.goto (-46), 3) := by decide +kernel
theorem dX8_digestOfScript_54 : decode cX8_digestOfScript 54 = .ok (.lload_n 3, 1) := by decide +kernel
theorem dX8_digestOfScript_55 : decode cX8_digestOfScript 55 = .ok (.lreturn, 1) := by decide +kernel
theorem dX8_compareAnew_0 : decode cX8_compareAnew 0 = .ok (.aload_n 0, 1) := by decide +kernel
theorem dX8_compareAnew_1 : decode cX8_compareAnew 1 = .ok (.getfield 19, 3) := by decide +kernel
theorem dX8_compareAnew_4 : decode cX8_compareAnew 4 = .ok (.invokevirtual 248, 3) := by decide +kernel
theorem dX8_compareAnew_7 : decode cX8_compareAnew 7 = .ok (.aload_n 0, 1) := by decide +kernel
theorem dX8_compareAnew_8 : decode cX8_compareAnew 8 = .ok (.getfield 47, 3) := by decide +kernel
theorem dX8_compareAnew_11 : decode cX8_compareAnew 11 = .ok (.aload_n 0, 1) := by decide +kernel
theorem dX8_compareAnew_12 : decode cX8_compareAnew 12 = .ok (.getfield 19, 3) := by decide +kernel
theorem dX8_compareAnew_15 : decode cX8_compareAnew 15 = .ok (.aload_n 0, 1) := by decide +kernel
theorem dX8_compareAnew_16 : decode cX8_compareAnew 16 = .ok (.getfield 40, 3) := by decide +kernel
theorem dX8_compareAnew_19 : decode cX8_compareAnew 19 = .ok (.invokevirtual 251, 3) := by decide +kernel
theorem dX8_compareAnew_22 : decode cX8_compareAnew 22 = .ok (.aload_n 0, 1) := by decide +kernel
theorem dX8_compareAnew_23 : decode cX8_compareAnew 23 = .ok (.getfield 54, 3) := by decide +kernel
theorem dX8_compareAnew_26 : decode cX8_compareAnew 26 = .ok (.invokevirtual 255, 3) := by decide +kernel
theorem dX8_compareAnew_29 : decode cX8_compareAnew 29 = .ok (.aload_n 0, 1) := by decide +kernel
theorem dX8_compareAnew_30 : decode cX8_compareAnew 30 = .ok (.getfield 47, 3) := by decide +kernel
theorem dX8_compareAnew_33 : decode cX8_compareAnew 33 = .ok (.getfield 209, 3) := by decide +kernel
theorem dX8_compareAnew_36 : decode cX8_compareAnew 36 = .ok (.ireturn, 1) := by decide +kernel
theorem dX8_costOfPutting_0 : decode cX8_costOfPutting 0 = .ok (.aload_n 0, 1) := by decide +kernel
theorem dX8_costOfPutting_1 : decode cX8_costOfPutting 1 = .ok (.getfield 28, 3) := by decide +kernel
theorem dX8_costOfPutting_4 : decode cX8_costOfPutting 4 = .ok (.getfield 23, 3) := by decide +kernel
theorem dX8_costOfPutting_7 : decode cX8_costOfPutting 7 = .ok (.aload_n 0, 1) := by decide +kernel
theorem dX8_costOfPutting_8 : decode cX8_costOfPutting 8 = .ok (.getfield 27, 3) := by decide +kernel
theorem dX8_costOfPutting_11 : decode cX8_costOfPutting 11 = .ok (.invokevirtual 206, 3) := by decide +kernel
theorem dX8_costOfPutting_14 : decode cX8_costOfPutting 14 = .ok (.aload_n 0, 1) := by decide +kernel
theorem dX8_costOfPutting_15 : decode cX8_costOfPutting 15 = .ok (.getfield 28, 3) := by decide +kernel
theorem dX8_costOfPutting_18 : decode cX8_costOfPutting 18 = .ok (.getfield 23, 3) := by decide +kernel
theorem dX8_costOfPutting_21 : decode cX8_costOfPutting 21 = .ok (.iconst 1, 1) := by decide +kernel
theorem dX8_costOfPutting_22 : decode cX8_costOfPutting 22 = .ok (.iload_n 1, 1) := by decide +kernel
theorem dX8_costOfPutting_23 : decode cX8_costOfPutting 23 = .ok (.iload_n 2, 1) := by decide +kernel
theorem dX8_costOfPutting_24 : decode cX8_costOfPutting 24 = .ok (.invokevirtual 162, 3) := by decide +kernel
theorem dX8_costOfPutting_27 : decode cX8_costOfPutting 27 = .ok (.aload_n 0, 1) := by decide +kernel
theorem dX8_costOfPutting_28 : decode cX8_costOfPutting 28 = .ok (.getfield 28, 3) := by decide +kernel
theorem dX8_costOfPutting_31 : decode cX8_costOfPutting 31 = .ok (.invokevirtual 248, 3) := by decide +kernel
theorem dX8_costOfPutting_34 : decode cX8_costOfPutting 34 = .ok (.aload_n 0, 1) := by decide +kernel
theorem dX8_costOfPutting_35 : decode cX8_costOfPutting 35 = .ok (.getfield 28, 3) := by decide +kernel
theorem dX8_costOfPutting_38 : decode cX8_costOfPutting 38 = .ok (.invokevirtual 176, 3) := by decide +kernel
theorem dX8_costOfPutting_41 : decode cX8_costOfPutting 41 = .ok (.ireturn, 1) := by decide +kernel
theorem dX8_drawTrial_0 : decode cX8_drawTrial 0 = .ok (.iload_n 1, 1) := by decide +kernel
theorem dX8_drawTrial_1 : decode cX8_drawTrial 1 = .ok (.istore_n 2, 1) := by decide +kernel
theorem dX8_drawTrial_2 : decode cX8_drawTrial 2 = .ok (.aload_n 0, 1) := by decide +kernel
theorem dX8_drawTrial_3 : decode cX8_drawTrial 3 = .ok (.getfield 28, 3) := by decide +kernel
theorem dX8_drawTrial_6 : decode cX8_drawTrial 6 = .ok (.getfield 23, 3) := by decide +kernel
theorem dX8_drawTrial_9 : decode cX8_drawTrial 9 = .ok (.invokevirtual 258, 3) := by decide +kernel
theorem dX8_drawTrial_12 : decode cX8_drawTrial 12 = .ok (.iconst 0, 1) := by decide +kernel
theorem dX8_drawTrial_13 : decode cX8_drawTrial 13 = .ok (.istore_n 3, 1) := by decide +kernel
theorem dX8_drawTrial_14 : decode cX8_drawTrial 14 = .ok (.iload_n 3, 1) := by decide +kernel
theorem dX8_drawTrial_15 : decode cX8_drawTrial 15 = .ok (.iconst 2, 1) := by decide +kernel
theorem dX8_drawTrial_16 : decode cX8_drawTrial 16 = .ok (.if_icmp .ge 63, 3) := by decide +kernel
theorem dX8_drawTrial_19 : decode cX8_drawTrial 19 = .ok (.iconst 0, 1) := by decide +kernel
theorem dX8_drawTrial_20 : decode cX8_drawTrial 20 = .ok (.istore 4, 2) := by decide +kernel
theorem dX8_drawTrial_22 : decode cX8_drawTrial 22 = .ok (.iload 4, 2) := by decide +kernel
theorem dX8_drawTrial_24 : decode cX8_drawTrial 24 = .ok (.iconst 4, 1) := by decide +kernel
theorem dX8_drawTrial_25 : decode cX8_drawTrial 25 = .ok (.if_icmp .ge 48, 3) := by decide +kernel
theorem dX8_drawTrial_28 : decode cX8_drawTrial 28 = .ok (.ldc2_w 259, 3) := by decide +kernel
theorem dX8_drawTrial_31 : decode cX8_drawTrial 31 = .ok (.iload_n 2, 1) := by decide +kernel
theorem dX8_drawTrial_32 : decode cX8_drawTrial 32 = .ok (.i2l, 1) := by decide +kernel
theorem dX8_drawTrial_33 : decode cX8_drawTrial 33 = .ok (.lmul, 1) := by decide +kernel
theorem dX8_drawTrial_34 : decode cX8_drawTrial 34 = .ok (.ldc2_w 261, 3) := by decide +kernel
theorem dX8_drawTrial_37 : decode cX8_drawTrial 37 = .ok (.ladd, 1) := by decide +kernel
theorem dX8_drawTrial_38 : decode cX8_drawTrial 38 = .ok (.ldc2_w 263, 3) := by decide +kernel
theorem dX8_drawTrial_41 : decode cX8_drawTrial 41 = .ok (.lrem, 1) := by decide +kernel
theorem dX8_drawTrial_42 : decode cX8_drawTrial 42 = .ok (.l2i, 1) := by decide +kernel
theorem dX8_drawTrial_43 : decode cX8_drawTrial 43 = .ok (.istore_n 2, 1) := by decide +kernel
theorem dX8_drawTrial_44 : decode cX8_drawTrial 44 = .ok (.aload_n 0, 1) := by decide +kernel
theorem dX8_drawTrial_45 : decode cX8_drawTrial 45 = .ok (.getfield 28, 3) := by decide +kernel
theorem dX8_drawTrial_48 : decode cX8_drawTrial 48 = .ok (.getfield 23, 3) := by decide +kernel
theorem dX8_drawTrial_51 : decode cX8_drawTrial 51 = .ok (.iload_n 3, 1) := by decide +kernel
theorem dX8_drawTrial_52 : decode cX8_drawTrial 52 = .ok (.iload 4, 2) := by decide +kernel
theorem dX8_drawTrial_54 : decode cX8_drawTrial 54 = .ok (.bipush 97, 2) := by decide +kernel
theorem dX8_drawTrial_56 : decode cX8_drawTrial 56 = .ok (.iload_n 2, 1) := by decide +kernel
theorem dX8_drawTrial_57 : decode cX8_drawTrial 57 = .ok (.ldc_w 265, 3) := by decide +kernel
theorem dX8_drawTrial_60 : decode cX8_drawTrial 60 = .ok (.idiv, 1) := by decide +kernel
theorem dX8_drawTrial_61 : decode cX8_drawTrial 61 = .ok (.iconst 5, 1) := by decide +kernel
theorem dX8_drawTrial_62 : decode cX8_drawTrial 62 = .ok (.irem, 1) := by decide +kernel
theorem dX8_drawTrial_63 : decode cX8_drawTrial 63 = .ok (.iadd, 1) := by decide +kernel
theorem dX8_drawTrial_64 : decode cX8_drawTrial 64 = .ok (.invokevirtual 162, 3) := by decide +kernel
theorem dX8_drawTrial_67 : decode cX8_drawTrial 67 = .ok (.iinc 4 1, 3) := by decide +kernel
theorem dX8_drawTrial_70 : decode cX8_drawTrial 70 = .ok (.goto (-48), 3) := by decide +kernel
theorem dX8_drawTrial_73 : decode cX8_drawTrial 73 = .ok (.iinc 3 1, 3) := by decide +kernel
theorem dX8_drawTrial_76 : decode cX8_drawTrial 76 = .ok (.goto (-62), 3) := by decide +kernel
theorem dX8_drawTrial_79 : decode cX8_drawTrial 79 = .ok (.aload_n 0, 1) := by decide +kernel
theorem dX8_drawTrial_80 : decode cX8_drawTrial 80 = .ok (.getfield 28, 3) := by decide +kernel
theorem dX8_drawTrial_83 : decode cX8_drawTrial 83 = .ok (.invokevirtual 248, 3) := by decide +kernel
theorem dX8_drawTrial_86 : decode cX8_drawTrial 86 = .ok (.iload_n 2, 1) := by decide +kernel
theorem dX8_drawTrial_87 : decode cX8_drawTrial 87 = .ok (.ireturn, 1) := by decide +kernel
theorem dX8_isSide_0 : decode cX8_isSide 0 = .ok (.iload_n 0, 1) := by decide +kernel
theorem dX8_isSide_1 : decode cX8_isSide 1 = .ok (.ifCond .eq 8, 3) := by decide +kernel
theorem dX8_isSide_4 : decode cX8_isSide 4 = .ok (.iload_n 0, 1) := by decide +kernel
theorem dX8_isSide_5 : decode cX8_isSide 5 = .ok (.iconst 1, 1) := by decide +kernel
theorem dX8_isSide_6 : decode cX8_isSide 6 = .ok (.if_icmp .ne 7, 3) := by decide +kernel
theorem dX8_isSide_9 : decode cX8_isSide 9 = .ok (.iconst 1, 1) := by decide +kernel
theorem dX8_isSide_10 : decode cX8_isSide 10 = .ok (.goto 4, 3) := by decide +kernel
theorem dX8_isSide_13 : decode cX8_isSide 13 = .ok (.iconst 0, 1) := by decide +kernel
theorem dX8_isSide_14 : decode cX8_isSide 14 = .ok (.ireturn, 1) := by decide +kernel
theorem dX8_isLetter_0 : decode cX8_isLetter 0 = .ok (.iload_n 0, 1) := by decide +kernel
theorem dX8_isLetter_1 : decode cX8_isLetter 1 = .ok (.bipush 97, 2) := by decide +kernel
theorem dX8_isLetter_3 : decode cX8_isLetter 3 = .ok (.if_icmp .lt 13, 3) := by decide +kernel
theorem dX8_isLetter_6 : decode cX8_isLetter 6 = .ok (.iload_n 0, 1) := by decide +kernel
theorem dX8_isLetter_7 : decode cX8_isLetter 7 = .ok (.bipush 101, 2) := by decide +kernel
theorem dX8_isLetter_9 : decode cX8_isLetter 9 = .ok (.if_icmp .gt 7, 3) := by decide +kernel
theorem dX8_isLetter_12 : decode cX8_isLetter 12 = .ok (.iconst 1, 1) := by decide +kernel
theorem dX8_isLetter_13 : decode cX8_isLetter 13 = .ok (.goto 4, 3) := by decide +kernel
theorem dX8_isLetter_16 : decode cX8_isLetter 16 = .ok (.iconst 0, 1) := by decide +kernel
theorem dX8_isLetter_17 : decode cX8_isLetter 17 = .ok (.ireturn, 1) := by decide +kernel
theorem dX8_isLine_0 : decode cX8_isLine 0 = .ok (.iload_n 0, 1) := by decide +kernel
theorem dX8_isLine_1 : decode cX8_isLine 1 = .ok (.istore_n 1, 1) := by decide +kernel
theorem dX8_isLine_2 : decode cX8_isLine 2 = .ok (.iconst 0, 1) := by decide +kernel
theorem dX8_isLine_3 : decode cX8_isLine 3 = .ok (.istore_n 2, 1) := by decide +kernel
theorem dX8_isLine_4 : decode cX8_isLine 4 = .ok (.iload_n 2, 1) := by decide +kernel
theorem dX8_isLine_5 : decode cX8_isLine 5 = .ok (.iconst 3, 1) := by decide +kernel
theorem dX8_isLine_6 : decode cX8_isLine 6 = .ok (.if_icmp .ge 30, 3) := by decide +kernel
theorem dX8_isLine_9 : decode cX8_isLine 9 = .ok (.iload_n 1, 1) := by decide +kernel
theorem dX8_isLine_10 : decode cX8_isLine 10 = .ok (.bipush 127, 2) := by decide +kernel
theorem dX8_isLine_12 : decode cX8_isLine 12 = .ok (.iand, 1) := by decide +kernel
theorem dX8_isLine_13 : decode cX8_isLine 13 = .ok (.invokestatic 266, 3) := by decide +kernel
theorem dX8_isLine_16 : decode cX8_isLine 16 = .ok (.ifCond .eq 20, 3) := by decide +kernel
theorem dX8_isLine_19 : decode cX8_isLine 19 = .ok (.iload_n 1, 1) := by decide +kernel
theorem dX8_isLine_20 : decode cX8_isLine 20 = .ok (.bipush 7, 2) := by decide +kernel
theorem dX8_isLine_22 : decode cX8_isLine 22 = .ok (.ishr, 1) := by decide +kernel
theorem dX8_isLine_23 : decode cX8_isLine 23 = .ok (.istore_n 1, 1) := by decide +kernel
theorem dX8_isLine_24 : decode cX8_isLine 24 = .ok (.iload_n 1, 1) := by decide +kernel
theorem dX8_isLine_25 : decode cX8_isLine 25 = .ok (.ifCond .ne 5, 3) := by decide +kernel
theorem dX8_isLine_28 : decode cX8_isLine 28 = .ok (.iconst 1, 1) := by decide +kernel
theorem dX8_isLine_29 : decode cX8_isLine 29 = .ok (.ireturn, 1) := by decide +kernel
theorem dX8_isLine_30 : decode cX8_isLine 30 = .ok (.iinc 2 1, 3) := by decide +kernel
theorem dX8_isLine_33 : decode cX8_isLine 33 = .ok (.goto (-29), 3) := by decide +kernel
theorem dX8_isLine_36 : decode cX8_isLine 36 = .ok (.iconst 0, 1) := by decide +kernel
theorem dX8_isLine_37 : decode cX8_isLine 37 = .ok (.ireturn, 1) := by decide +kernel
theorem dX8_lettersIn_0 : decode cX8_lettersIn 0 = .ok (.iload_n 0, 1) := by decide +kernel
theorem dX8_lettersIn_1 : decode cX8_lettersIn 1 = .ok (.sipush 128, 3) := by decide +kernel
theorem dX8_lettersIn_4 : decode cX8_lettersIn 4 = .ok (.if_icmp .ge 7, 3) := by decide +kernel
theorem dX8_lettersIn_7 : decode cX8_lettersIn 7 = .ok (.iconst 1, 1) := by decide +kernel
theorem dX8_lettersIn_8 : decode cX8_lettersIn 8 = .ok (.goto 15, 3) := by decide +kernel
theorem dX8_lettersIn_11 : decode cX8_lettersIn 11 = .ok (.iload_n 0, 1) := by decide +kernel
theorem dX8_lettersIn_12 : decode cX8_lettersIn 12 = .ok (.sipush 16384, 3) := by decide +kernel
theorem dX8_lettersIn_15 : decode cX8_lettersIn 15 = .ok (.if_icmp .ge 7, 3) := by decide +kernel
theorem dX8_lettersIn_18 : decode cX8_lettersIn 18 = .ok (.iconst 2, 1) := by decide +kernel
theorem dX8_lettersIn_19 : decode cX8_lettersIn 19 = .ok (.goto 4, 3) := by decide +kernel
theorem dX8_lettersIn_22 : decode cX8_lettersIn 22 = .ok (.iconst 3, 1) := by decide +kernel
theorem dX8_lettersIn_23 : decode cX8_lettersIn 23 = .ok (.ireturn, 1) := by decide +kernel
theorem dX8_codeAt_0 : decode cX8_codeAt 0 = .ok (.iload_n 0, 1) := by decide +kernel
theorem dX8_codeAt_1 : decode cX8_codeAt 1 = .ok (.invokestatic 102, 3) := by decide +kernel
theorem dX8_codeAt_4 : decode cX8_codeAt 4 = .ok (.iconst 1, 1) := by decide +kernel
theorem dX8_codeAt_5 : decode cX8_codeAt 5 = .ok (.isub, 1) := by decide +kernel
theorem dX8_codeAt_6 : decode cX8_codeAt 6 = .ok (.iload_n 1, 1) := by decide +kernel
theorem dX8_codeAt_7 : decode cX8_codeAt 7 = .ok (.isub, 1) := by decide +kernel
theorem dX8_codeAt_8 : decode cX8_codeAt 8 = .ok (.istore_n 2, 1) := by decide +kernel
theorem dX8_codeAt_9 : decode cX8_codeAt 9 = .ok (.iload_n 2, 1) := by decide +kernel
theorem dX8_codeAt_10 : decode cX8_codeAt 10 = .ok (.ifCond .ge 7, 3) := by decide +kernel
theorem dX8_codeAt_13 : decode cX8_codeAt 13 = .ok (.iconst (-1), 1) := by decide +kernel
theorem dX8_codeAt_14 : decode cX8_codeAt 14 = .ok (.goto 12, 3) := by decide +kernel
theorem dX8_codeAt_17 : decode cX8_codeAt 17 = .ok (.iload_n 0, 1) := by decide +kernel
theorem dX8_codeAt_18 : decode cX8_codeAt 18 = .ok (.bipush 7, 2) := by decide +kernel
theorem dX8_codeAt_20 : decode cX8_codeAt 20 = .ok (.iload_n 2, 1) := by decide +kernel
theorem dX8_codeAt_21 : decode cX8_codeAt 21 = .ok (.imul, 1) := by decide +kernel
theorem dX8_codeAt_22 : decode cX8_codeAt 22 = .ok (.ishr, 1) := by decide +kernel
theorem dX8_codeAt_23 : decode cX8_codeAt 23 = .ok (.bipush 127, 2) := by decide +kernel
theorem dX8_codeAt_25 : decode cX8_codeAt 25 = .ok (.iand, 1) := by decide +kernel
theorem dX8_codeAt_26 : decode cX8_codeAt 26 = .ok (.ireturn, 1) := by decide +kernel
theorem dX8_isOfKind_0 : decode cX8_isOfKind 0 = .ok (.iload_n 0, 1) := by decide +kernel
theorem dX8_isOfKind_1 : decode cX8_isOfKind 1 = .ok (.istore_n 2, 1) := by decide +kernel
theorem dX8_isOfKind_2 : decode cX8_isOfKind 2 = .ok (.iconst 0, 1) := by decide +kernel
theorem dX8_isOfKind_3 : decode cX8_isOfKind 3 = .ok (.istore_n 3, 1) := by decide +kernel
theorem dX8_isOfKind_4 : decode cX8_isOfKind 4 = .ok (.iload_n 3, 1) := by decide +kernel
theorem dX8_isOfKind_5 : decode cX8_isOfKind 5 = .ok (.iconst 5, 1) := by decide +kernel
theorem dX8_isOfKind_6 : decode cX8_isOfKind 6 = .ok (.if_icmp .ge 31, 3) := by decide +kernel
theorem dX8_isOfKind_9 : decode cX8_isOfKind 9 = .ok (.iload_n 2, 1) := by decide +kernel
theorem dX8_isOfKind_10 : decode cX8_isOfKind 10 = .ok (.ifCond .lt 27, 3) := by decide +kernel
theorem dX8_isOfKind_13 : decode cX8_isOfKind 13 = .ok (.iload_n 2, 1) := by decide +kernel
theorem dX8_isOfKind_14 : decode cX8_isOfKind 14 = .ok (.iconst 5, 1) := by decide +kernel
theorem dX8_isOfKind_15 : decode cX8_isOfKind 15 = .ok (.if_icmp .ge 22, 3) := by decide +kernel
theorem dX8_isOfKind_18 : decode cX8_isOfKind 18 = .ok (.iload_n 2, 1) := by decide +kernel
theorem dX8_isOfKind_19 : decode cX8_isOfKind 19 = .ok (.iload_n 1, 1) := by decide +kernel
theorem dX8_isOfKind_20 : decode cX8_isOfKind 20 = .ok (.if_icmp .ne 5, 3) := by decide +kernel
theorem dX8_isOfKind_23 : decode cX8_isOfKind 23 = .ok (.iconst 1, 1) := by decide +kernel
theorem dX8_isOfKind_24 : decode cX8_isOfKind 24 = .ok (.ireturn, 1) := by decide +kernel
theorem dX8_isOfKind_25 : decode cX8_isOfKind 25 = .ok (.getstatic 269, 3) := by decide +kernel
theorem dX8_isOfKind_28 : decode cX8_isOfKind 28 = .ok (.iload_n 2, 1) := by decide +kernel
theorem dX8_isOfKind_29 : decode cX8_isOfKind 29 = .ok (.iaload, 1) := by decide +kernel
theorem dX8_isOfKind_30 : decode cX8_isOfKind 30 = .ok (.istore_n 2, 1) := by decide +kernel
theorem dX8_isOfKind_31 : decode cX8_isOfKind 31 = .ok (.iinc 3 1, 3) := by decide +kernel
theorem dX8_isOfKind_34 : decode cX8_isOfKind 34 = .ok (.goto (-30), 3) := by decide +kernel
theorem dX8_isOfKind_37 : decode cX8_isOfKind 37 = .ok (.iconst 0, 1) := by decide +kernel
theorem dX8_isOfKind_38 : decode cX8_isOfKind 38 = .ok (.ireturn, 1) := by decide +kernel
theorem dX8_singleBits_0 : decode cX8_singleBits 0 = .ok (.fload_n 0, 1) := by decide +kernel
theorem dX8_singleBits_1 : decode cX8_singleBits 1 = .ok (.fconst 0, 1) := by decide +kernel
theorem dX8_singleBits_2 : decode cX8_singleBits 2 = .ok (.fcmp .l, 1) := by decide +kernel
theorem dX8_singleBits_3 : decode cX8_singleBits 3 = .ok (.ifCond .gt 5, 3) := by decide +kernel
theorem dX8_singleBits_6 : decode cX8_singleBits 6 = .ok (.iconst 0, 1) := by decide +kernel
theorem dX8_singleBits_7 : decode cX8_singleBits 7 = .ok (.ireturn, 1) := by decide +kernel
theorem dX8_singleBits_8 : decode cX8_singleBits 8 = .ok (.fload_n 0, 1) := by decide +kernel
theorem dX8_singleBits_9 : decode cX8_singleBits 9 = .ok (.fstore_n 1, 1) := by decide +kernel
theorem dX8_singleBits_10 : decode cX8_singleBits 10 = .ok (.sipush 150, 3) := by decide +kernel
theorem dX8_singleBits_13 : decode cX8_singleBits 13 = .ok (.istore_n 2, 1) := by decide +kernel
theorem dX8_singleBits_14 : decode cX8_singleBits 14 = .ok (.iconst 0, 1) := by decide +kernel
theorem dX8_singleBits_15 : decode cX8_singleBits 15 = .ok (.istore_n 3, 1) := by decide +kernel
theorem dX8_singleBits_16 : decode cX8_singleBits 16 = .ok (.iload_n 3, 1) := by decide +kernel
theorem dX8_singleBits_17 : decode cX8_singleBits 17 = .ok (.bipush 127, 2) := by decide +kernel
theorem dX8_singleBits_19 : decode cX8_singleBits 19 = .ok (.if_icmp .ge 24, 3) := by decide +kernel
theorem dX8_singleBits_22 : decode cX8_singleBits 22 = .ok (.fload_n 1, 1) := by decide +kernel
theorem dX8_singleBits_23 : decode cX8_singleBits 23 = .ok (.ldc_w 272, 3) := by decide +kernel
theorem dX8_singleBits_26 : decode cX8_singleBits 26 = .ok (.fcmp .g, 1) := by decide +kernel
theorem dX8_singleBits_27 : decode cX8_singleBits 27 = .ok (.ifCond .ge 16, 3) := by decide +kernel
theorem dX8_singleBits_30 : decode cX8_singleBits 30 = .ok (.fload_n 1, 1) := by decide +kernel
theorem dX8_singleBits_31 : decode cX8_singleBits 31 = .ok (.fconst 2, 1) := by decide +kernel
theorem dX8_singleBits_32 : decode cX8_singleBits 32 = .ok (.fmul, 1) := by decide +kernel
theorem dX8_singleBits_33 : decode cX8_singleBits 33 = .ok (.fstore_n 1, 1) := by decide +kernel
theorem dX8_singleBits_34 : decode cX8_singleBits 34 = .ok (.iinc 2 (-1), 3) := by decide +kernel
theorem dX8_singleBits_37 : decode cX8_singleBits 37 = .ok (.iinc 3 1, 3) := by decide +kernel
theorem dX8_singleBits_40 : decode cX8_singleBits 40 = .ok (.goto (-24), 3) := by decide +kernel
theorem dX8_singleBits_43 : decode cX8_singleBits 43 = .ok (.iload_n 2, 1) := by decide +kernel
theorem dX8_singleBits_44 : decode cX8_singleBits 44 = .ok (.bipush 23, 2) := by decide +kernel
theorem dX8_singleBits_46 : decode cX8_singleBits 46 = .ok (.ishl, 1) := by decide +kernel
theorem dX8_singleBits_47 : decode cX8_singleBits 47 = .ok (.fload_n 1, 1) := by decide +kernel
theorem dX8_singleBits_48 : decode cX8_singleBits 48 = .ok (.f2i, 1) := by decide +kernel
theorem dX8_singleBits_49 : decode cX8_singleBits 49 = .ok (.ldc_w 273, 3) := by decide +kernel
theorem dX8_singleBits_52 : decode cX8_singleBits 52 = .ok (.iand, 1) := by decide +kernel
theorem dX8_singleBits_53 : decode cX8_singleBits 53 = .ok (.ior, 1) := by decide +kernel
theorem dX8_singleBits_54 : decode cX8_singleBits 54 = .ok (.ireturn, 1) := by decide +kernel
theorem dX8_doubleBits_0 : decode cX8_doubleBits 0 = .ok (.dload_n 0, 1) := by decide +kernel
theorem dX8_doubleBits_1 : decode cX8_doubleBits 1 = .ok (.dconst 0, 1) := by decide +kernel
theorem dX8_doubleBits_2 : decode cX8_doubleBits 2 = .ok (.dcmp .l, 1) := by decide +kernel
theorem dX8_doubleBits_3 : decode cX8_doubleBits 3 = .ok (.ifCond .gt 5, 3) := by decide +kernel
theorem dX8_doubleBits_6 : decode cX8_doubleBits 6 = .ok (.lconst 0, 1) := by decide +kernel
theorem dX8_doubleBits_7 : decode cX8_doubleBits 7 = .ok (.lreturn, 1) := by decide +kernel
theorem dX8_doubleBits_8 : decode cX8_doubleBits 8 = .ok (.dload_n 0, 1) := by decide +kernel
theorem dX8_doubleBits_9 : decode cX8_doubleBits 9 = .ok (.dstore_n 2, 1) := by decide +kernel
theorem dX8_doubleBits_10 : decode cX8_doubleBits 10 = .ok (.ldc2_w 274, 3) := by decide +kernel
theorem dX8_doubleBits_13 : decode cX8_doubleBits 13 = .ok (.lstore 4, 2) := by decide +kernel
theorem dX8_doubleBits_15 : decode cX8_doubleBits 15 = .ok (.iconst 0, 1) := by decide +kernel
theorem dX8_doubleBits_16 : decode cX8_doubleBits 16 = .ok (.istore 6, 2) := by decide +kernel
theorem dX8_doubleBits_18 : decode cX8_doubleBits 18 = .ok (.iload 6, 2) := by decide +kernel
theorem dX8_doubleBits_20 : decode cX8_doubleBits 20 = .ok (.sipush 1023, 3) := by decide +kernel
theorem dX8_doubleBits_23 : decode cX8_doubleBits 23 = .ok (.if_icmp .ge 29, 3) := by decide +kernel
theorem dX8_doubleBits_26 : decode cX8_doubleBits 26 = .ok (.dload_n 2, 1) := by decide +kernel
theorem dX8_doubleBits_27 : decode cX8_doubleBits 27 = .ok (.ldc2_w 276, 3) := by decide +kernel
theorem dX8_doubleBits_30 : decode cX8_doubleBits 30 = .ok (.dcmp .g, 1) := by decide +kernel
theorem dX8_doubleBits_31 : decode cX8_doubleBits 31 = .ok (.ifCond .ge 21, 3) := by decide +kernel
theorem dX8_doubleBits_34 : decode cX8_doubleBits 34 = .ok (.dload_n 2, 1) := by decide +kernel
theorem dX8_doubleBits_35 : decode cX8_doubleBits 35 = .ok (.ldc2_w 278, 3) := by decide +kernel
theorem dX8_doubleBits_38 : decode cX8_doubleBits 38 = .ok (.dmul, 1) := by decide +kernel
theorem dX8_doubleBits_39 : decode cX8_doubleBits 39 = .ok (.dstore_n 2, 1) := by decide +kernel
theorem dX8_doubleBits_40 : decode cX8_doubleBits 40 = .ok (.lload 4, 2) := by decide +kernel
theorem dX8_doubleBits_42 : decode cX8_doubleBits 42 = .ok (.lconst 1, 1) := by decide +kernel
theorem dX8_doubleBits_43 : decode cX8_doubleBits 43 = .ok (.lsub, 1) := by decide +kernel
theorem dX8_doubleBits_44 : decode cX8_doubleBits 44 = .ok (.lstore 4, 2) := by decide +kernel
theorem dX8_doubleBits_46 : decode cX8_doubleBits 46 = .ok (.iinc 6 1, 3) := by decide +kernel
theorem dX8_doubleBits_49 : decode cX8_doubleBits 49 = .ok (.goto (-31), 3) := by decide +kernel
theorem dX8_doubleBits_52 : decode cX8_doubleBits 52 = .ok (.lload 4, 2) := by decide +kernel
theorem dX8_doubleBits_54 : decode cX8_doubleBits 54 = .ok (.bipush 52, 2) := by decide +kernel
theorem dX8_doubleBits_56 : decode cX8_doubleBits 56 = .ok (.lshl, 1) := by decide +kernel
theorem dX8_doubleBits_57 : decode cX8_doubleBits 57 = .ok (.dload_n 2, 1) := by decide +kernel
theorem dX8_doubleBits_58 : decode cX8_doubleBits 58 = .ok (.d2l, 1) := by decide +kernel
theorem dX8_doubleBits_59 : decode cX8_doubleBits 59 = .ok (.ldc2_w 280, 3) := by decide +kernel
theorem dX8_doubleBits_62 : decode cX8_doubleBits 62 = .ok (.land, 1) := by decide +kernel
theorem dX8_doubleBits_63 : decode cX8_doubleBits 63 = .ok (.lor, 1) := by decide +kernel
theorem dX8_doubleBits_64 : decode cX8_doubleBits 64 = .ok (.lreturn, 1) := by decide +kernel
theorem dX9_init_0 : decode cX9_init 0 = .ok (.aload_n 0, 1) := by decide +kernel
theorem dX9_init_1 : decode cX9_init 1 = .ok (.invokespecial 1, 3) := by decide +kernel
theorem dX9_init_4 : decode cX9_init 4 = .ok (.aload_n 0, 1) := by decide +kernel
theorem dX9_init_5 : decode cX9_init 5 = .ok (.bipush 64, 2) := by decide +kernel
theorem dX9_init_7 : decode cX9_init 7 = .ok (.newarray .int, 2) := by decide +kernel
theorem dX9_init_9 : decode cX9_init 9 = .ok (.putfield 7, 3) := by decide +kernel
theorem dX9_init_12 : decode cX9_init 12 = .ok (.aload_n 0, 1) := by decide +kernel
theorem dX9_init_13 : decode cX9_init 13 = .ok (.iconst 2, 1) := by decide +kernel
theorem dX9_init_14 : decode cX9_init 14 = .ok (.newarray .int, 2) := by decide +kernel
theorem dX9_init_16 : decode cX9_init 16 = .ok (.putfield 13, 3) := by decide +kernel
theorem dX9_init_19 : decode cX9_init 19 = .ok (.aload_n 0, 1) := by decide +kernel
theorem dX9_init_20 : decode cX9_init 20 = .ok (.bipush 32, 2) := by decide +kernel
theorem dX9_init_22 : decode cX9_init 22 = .ok (.newarray .int, 2) := by decide +kernel
theorem dX9_init_24 : decode cX9_init 24 = .ok (.putfield 16, 3) := by decide +kernel
theorem dX9_init_27 : decode cX9_init 27 = .ok (.aload_n 0, 1) := by decide +kernel
theorem dX9_init_28 : decode cX9_init 28 = .ok (.bipush 32, 2) := by decide +kernel
theorem dX9_init_30 : decode cX9_init 30 = .ok (.newarray .int, 2) := by decide +kernel
theorem dX9_init_32 : decode cX9_init 32 = .ok (.putfield 19, 3) := by decide +kernel
theorem dX9_init_35 : decode cX9_init 35 = .ok (.aload_n 0, 1) := by decide +kernel
theorem dX9_init_36 : decode cX9_init 36 = .ok (.iconst 2, 1) := by decide +kernel
theorem dX9_init_37 : decode cX9_init 37 = .ok (.newarray .int, 2) := by decide +kernel
theorem dX9_init_39 : decode cX9_init 39 = .ok (.putfield 22, 3) := by decide +kernel
theorem dX9_init_42 : decode cX9_init 42 = .ok (.aload_n 0, 1) := by decide +kernel
theorem dX9_init_43 : decode cX9_init 43 = .ok (.bipush 32, 2) := by decide +kernel
theorem dX9_init_45 : decode cX9_init 45 = .ok (.newarray .int, 2) := by decide +kernel
theorem dX9_init_47 : decode cX9_init 47 = .ok (.putfield 25, 3) := by decide +kernel
theorem dX9_init_50 : decode cX9_init 50 = .ok (.aload_n 0, 1) := by decide +kernel
theorem dX9_init_51 : decode cX9_init 51 = .ok (.sipush 200, 3) := by decide +kernel
theorem dX9_init_54 : decode cX9_init 54 = .ok (.newarray .int, 2) := by decide +kernel
theorem dX9_init_56 : decode cX9_init 56 = .ok (.putfield 28, 3) := by decide +kernel
theorem dX9_init_59 : decode cX9_init 59 = .ok (.aload_n 0, 1) := by decide +kernel
theorem dX9_init_60 : decode cX9_init 60 = .ok (.bipush 8, 2) := by decide +kernel
theorem dX9_init_62 : decode cX9_init 62 = .ok (.newarray .int, 2) := by decide +kernel
theorem dX9_init_64 : decode cX9_init 64 = .ok (.putfield 31, 3) := by decide +kernel
theorem dX9_init_67 : decode cX9_init 67 = .ok (.aload_n 0, 1) := by decide +kernel
theorem dX9_init_68 : decode cX9_init 68 = .ok (.bipush 8, 2) := by decide +kernel
theorem dX9_init_70 : decode cX9_init 70 = .ok (.newarray .int, 2) := by decide +kernel
theorem dX9_init_72 : decode cX9_init 72 = .ok (.putfield 34, 3) := by decide +kernel
theorem dX9_init_75 : decode cX9_init 75 = .ok (.aload_n 0, 1) := by decide +kernel
theorem dX9_init_76 : decode cX9_init 76 = .ok (.bipush 8, 2) := by decide +kernel
theorem dX9_init_78 : decode cX9_init 78 = .ok (.newarray .int, 2) := by decide +kernel
theorem dX9_init_80 : decode cX9_init 80 = .ok (.putfield 37, 3) := by decide +kernel
theorem dX9_init_83 : decode cX9_init 83 = .ok (.aload_n 0, 1) := by decide +kernel
theorem dX9_init_84 : decode cX9_init 84 = .ok (.bipush 81, 2) := by decide +kernel
theorem dX9_init_86 : decode cX9_init 86 = .ok (.newarray .int, 2) := by decide +kernel
theorem dX9_init_88 : decode cX9_init 88 = .ok (.putfield 40, 3) := by decide +kernel
theorem dX9_init_91 : decode cX9_init 91 = .ok (.aload_n 0, 1) := by decide +kernel
theorem dX9_init_92 : decode cX9_init 92 = .ok (.bipush 16, 2) := by decide +kernel
theorem dX9_init_94 : decode cX9_init 94 = .ok (.newarray .int, 2) := by decide +kernel
theorem dX9_init_96 : decode cX9_init 96 = .ok (.putfield 43, 3) := by decide +kernel
theorem dX9_init_99 : decode cX9_init 99 = .ok (.aload_n 0, 1) := by decide +kernel
theorem dX9_init_100 : decode cX9_init 100 = .ok (.bipush 80, 2) := by decide +kernel
theorem dX9_init_102 : decode cX9_init 102 = .ok (.newarray .int, 2) := by decide +kernel
theorem dX9_init_104 : decode cX9_init 104 = .ok (.putfield 46, 3) := by decide +kernel
theorem dX9_init_107 : decode cX9_init 107 = .ok (.aload_n 0, 1) := by decide +kernel
theorem dX9_init_108 : decode cX9_init 108 = .ok (.bipush 32, 2) := by decide +kernel
theorem dX9_init_110 : decode cX9_init 110 = .ok (.newarray .int, 2) := by decide +kernel
theorem dX9_init_112 : decode cX9_init 112 = .ok (.putfield 49, 3) := by decide +kernel
theorem dX9_init_115 : decode cX9_init 115 = .ok (.aload_n 0, 1) := by decide +kernel
theorem dX9_init_116 : decode cX9_init 116 = .ok (.bipush 15, 2) := by decide +kernel
theorem dX9_init_118 : decode cX9_init 118 = .ok (.newarray .int, 2) := by decide +kernel
theorem dX9_init_120 : decode cX9_init 120 = .ok (.putfield 52, 3) := by decide +kernel
theorem dX9_init_123 : decode cX9_init 123 = .ok (.aload_n 0, 1) := by decide +kernel
theorem dX9_init_124 : decode cX9_init 124 = .ok (.bipush 32, 2) := by decide +kernel
theorem dX9_init_126 : decode cX9_init 126 = .ok (.newarray .int, 2) := by decide +kernel
theorem dX9_init_128 : decode cX9_init 128 = .ok (.putfield 55, 3) := by decide +kernel
theorem dX9_init_131 : decode cX9_init 131 = .ok (.aload_n 0, 1) := by decide +kernel
theorem dX9_init_132 : decode cX9_init 132 = .ok (.iconst 2, 1) := by decide +kernel
theorem dX9_init_133 : decode cX9_init 133 = .ok (.newarray .int, 2) := by decide +kernel
theorem dX9_init_135 : decode cX9_init 135 = .ok (.putfield 58, 3) := by decide +kernel
theorem dX9_init_138 : decode cX9_init 138 = .ok (.aload_n 0, 1) := by decide +kernel
theorem dX9_init_139 : decode cX9_init 139 = .ok (.bipush 32, 2) := by decide +kernel
theorem dX9_init_141 : decode cX9_init 141 = .ok (.newarray .int, 2) := by decide +kernel
theorem dX9_init_143 : decode cX9_init 143 = .ok (.putfield 61, 3) := by decide +kernel
theorem dX9_init_146 : decode cX9_init 146 = .ok (.aload_n 0, 1) := by decide +kernel
theorem dX9_init_147 : decode cX9_init 147 = .ok (.iconst 2, 1) := by decide +kernel
theorem dX9_init_148 : decode cX9_init 148 = .ok (.newarray .int, 2) := by decide +kernel
theorem dX9_init_150 : decode cX9_init 150 = .ok (.putfield 64, 3) := by decide +kernel
theorem dX9_init_153 : decode cX9_init 153 = .ok (.aload_n 0, 1) := by decide +kernel
theorem dX9_init_154 : decode cX9_init 154 = .ok (.iconst (-1), 1) := by decide +kernel
theorem dX9_init_155 : decode cX9_init 155 = .ok (.putfield 67, 3) := by decide +kernel
theorem dX9_init_158 : decode cX9_init 158 = .ok (.iconst 0, 1) := by decide +kernel
theorem dX9_init_159 : decode cX9_init 159 = .ok (.istore_n 1, 1) := by decide +kernel
theorem dX9_init_160 : decode cX9_init 160 = .ok (.iload_n 1, 1) := by decide +kernel
theorem dX9_init_161 : decode cX9_init 161 = .ok (.bipush 15, 2) := by decide +kernel
theorem dX9_init_163 : decode cX9_init 163 = .ok (.if_icmp .ge 16, 3) := by decide +kernel
theorem dX9_init_166 : decode cX9_init 166 = .ok (.aload_n 0, 1) := by decide +kernel
theorem dX9_init_167 : decode cX9_init 167 = .ok (.getfield 52, 3) := by decide +kernel
theorem dX9_init_170 : decode cX9_init 170 = .ok (.iload_n 1, 1) := by decide +kernel
theorem dX9_init_171 : decode cX9_init 171 = .ok (.iconst (-1), 1) := by decide +kernel
theorem dX9_init_172 : decode cX9_init 172 = .ok (.iastore, 1) := by decide +kernel
theorem dX9_init_173 : decode cX9_init 173 = .ok (.iinc 1 1, 3) := by decide +kernel
theorem dX9_init_176 : decode cX9_init 176 = .ok (.goto (-16), 3) := by decide +kernel
theorem dX9_init_179 : decode cX9_init 179 = .ok (.return_, 1) := by decide +kernel
theorem dX9_in_0 : decode cX9_in 0 = .ok (.lload_n 0, 1) := by decide +kernel
theorem dX9_in_1 : decode cX9_in 1 = .ok (.lload_n 2, 1) := by decide +kernel
theorem dX9_in_2 : decode cX9_in 2 = .ok (.lcmp, 1) := by decide +kernel
theorem dX9_in_3 : decode cX9_in 3 = .ok (.ifCond .lt 14, 3) := by decide +kernel
theorem dX9_in_6 : decode cX9_in 6 = .ok (.lload_n 0, 1) := by decide +kernel
theorem dX9_in_7 : decode cX9_in 7 = .ok (.lload 4, 2) := by decide +kernel
theorem dX9_in_9 : decode cX9_in 9 = .ok (.lcmp, 1) := by decide +kernel
theorem dX9_in_10 : decode cX9_in 10 = .ok (.ifCond .gt 7, 3) := by decide +kernel
theorem dX9_in_13 : decode cX9_in 13 = .ok (.iconst 1, 1) := by decide +kernel
theorem dX9_in_14 : decode cX9_in 14 = .ok (.goto 4, 3) := by decide +kernel
theorem dX9_in_17 : decode cX9_in 17 = .ok (.iconst 0, 1) := by decide +kernel
theorem dX9_in_18 : decode cX9_in 18 = .ok (.ireturn, 1) := by decide +kernel
theorem dX9_copy_0 : decode cX9_copy 0 = .ok (.iconst 0, 1) := by decide +kernel
theorem dX9_copy_1 : decode cX9_copy 1 = .ok (.istore_n 2, 1) := by decide +kernel
theorem dX9_copy_2 : decode cX9_copy 2 = .ok (.iload_n 2, 1) := by decide +kernel
theorem dX9_copy_3 : decode cX9_copy 3 = .ok (.aload_n 0, 1) := by decide +kernel
theorem dX9_copy_4 : decode cX9_copy 4 = .ok (.arraylength, 1) := by decide +kernel
theorem dX9_copy_5 : decode cX9_copy 5 = .ok (.if_icmp .ge 15, 3) := by decide +kernel
theorem dX9_copy_8 : decode cX9_copy 8 = .ok (.aload_n 1, 1) := by decide +kernel
theorem dX9_copy_9 : decode cX9_copy 9 = .ok (.iload_n 2, 1) := by decide +kernel
theorem dX9_copy_10 : decode cX9_copy 10 = .ok (.aload_n 0, 1) := by decide +kernel
theorem dX9_copy_11 : decode cX9_copy 11 = .ok (.iload_n 2, 1) := by decide +kernel
theorem dX9_copy_12 : decode cX9_copy 12 = .ok (.iaload, 1) := by decide +kernel
theorem dX9_copy_13 : decode cX9_copy 13 = .ok (.iastore, 1) := by decide +kernel
theorem dX9_copy_14 : decode cX9_copy 14 = .ok (.iinc 2 1, 3) := by decide +kernel
theorem dX9_copy_17 : decode cX9_copy 17 = .ok (.goto (-15), 3) := by decide +kernel
theorem dX9_copy_20 : decode cX9_copy 20 = .ok (.return_, 1) := by decide +kernel
theorem dX9_letter_0 : decode cX9_letter 0 = .ok (.iload_n 1, 1) := by decide +kernel
theorem dX9_letter_1 : decode cX9_letter 1 = .ok (.i2l, 1) := by decide +kernel
theorem dX9_letter_2 : decode cX9_letter 2 = .ok (.lconst 1, 1) := by decide +kernel
theorem dX9_letter_3 : decode cX9_letter 3 = .ok (.ldc2_w 71, 3) := by decide +kernel
theorem dX9_letter_6 : decode cX9_letter 6 = .ok (.invokestatic 73, 3) := by decide +kernel
theorem dX9_letter_9 : decode cX9_letter 9 = .ok (.ifCond .ne 6, 3) := by decide +kernel
theorem dX9_letter_12 : decode cX9_letter 12 = .ok (.bipush (-102), 2) := by decide +kernel
theorem dX9_letter_14 : decode cX9_letter 14 = .ok (.ireturn, 1) := by decide +kernel
theorem dX9_letter_15 : decode cX9_letter 15 = .ok (.aload_n 0, 1) := by decide +kernel
theorem dX9_letter_16 : decode cX9_letter 16 = .ok (.getfield 77, 3) := by decide +kernel
theorem dX9_letter_19 : decode cX9_letter 19 = .ok (.bipush 64, 2) := by decide +kernel
theorem dX9_letter_21 : decode cX9_letter 21 = .ok (.if_icmp .ne 6, 3) := by decide +kernel
theorem dX9_letter_24 : decode cX9_letter 24 = .ok (.bipush (-104), 2) := by decide +kernel
theorem dX9_letter_26 : decode cX9_letter 26 = .ok (.ireturn, 1) := by decide +kernel
theorem dX9_letter_27 : decode cX9_letter 27 = .ok (.aload_n 0, 1) := by decide +kernel
theorem dX9_letter_28 : decode cX9_letter 28 = .ok (.getfield 7, 3) := by decide +kernel
theorem dX9_letter_31 : decode cX9_letter 31 = .ok (.aload_n 0, 1) := by decide +kernel
theorem dX9_letter_32 : decode cX9_letter 32 = .ok (.getfield 77, 3) := by decide +kernel
theorem dX9_letter_35 : decode cX9_letter 35 = .ok (.iload_n 1, 1) := by decide +kernel
theorem dX9_letter_36 : decode cX9_letter 36 = .ok (.iastore, 1) := by decide +kernel
theorem dX9_letter_37 : decode cX9_letter 37 = .ok (.aload_n 0, 1) := by decide +kernel
theorem dX9_letter_38 : decode cX9_letter 38 = .ok (.dup, 1) := by decide +kernel
theorem dX9_letter_39 : decode cX9_letter 39 = .ok (.getfield 77, 3) := by decide +kernel
theorem dX9_letter_42 : decode cX9_letter 42 = .ok (.iconst 1, 1) := by decide +kernel
theorem dX9_letter_43 : decode cX9_letter 43 = .ok (.iadd, 1) := by decide +kernel
theorem dX9_letter_44 : decode cX9_letter 44 = .ok (.putfield 77, 3) := by decide +kernel
theorem dX9_letter_47 : decode cX9_letter 47 = .ok (.aload_n 0, 1) := by decide +kernel
theorem dX9_letter_48 : decode cX9_letter 48 = .ok (.getfield 77, 3) := by decide +kernel
theorem dX9_letter_51 : decode cX9_letter 51 = .ok (.ireturn, 1) := by decide +kernel
theorem dX9_blank_0 : decode cX9_blank 0 = .ok (.aload_n 0, 1) := by decide +kernel
theorem dX9_blank_1 : decode cX9_blank 1 = .ok (.getfield 77, 3) := by decide +kernel
theorem dX9_blank_4 : decode cX9_blank 4 = .ok (.istore_n 1, 1) := by decide +kernel
theorem dX9_blank_5 : decode cX9_blank 5 = .ok (.aload_n 0, 1) := by decide +kernel
theorem dX9_blank_6 : decode cX9_blank 6 = .ok (.iconst 0, 1) := by decide +kernel
theorem dX9_blank_7 : decode cX9_blank 7 = .ok (.putfield 77, 3) := by decide +kernel
theorem dX9_blank_10 : decode cX9_blank 10 = .ok (.iload_n 1, 1) := by decide +kernel
theorem dX9_blank_11 : decode cX9_blank 11 = .ok (.ireturn, 1) := by decide +kernel
theorem dX9_isGood_0 : decode cX9_isGood 0 = .ok (.iload_n 1, 1) := by decide +kernel
theorem dX9_isGood_1 : decode cX9_isGood 1 = .ok (.i2l, 1) := by decide +kernel
theorem dX9_isGood_2 : decode cX9_isGood 2 = .ok (.ldc2_w 80, 3) := by decide +kernel
theorem dX9_isGood_5 : decode cX9_isGood 5 = .ok (.ldc2_w 82, 3) := by decide +kernel
theorem dX9_isGood_8 : decode cX9_isGood 8 = .ok (.invokestatic 73, 3) := by decide +kernel
theorem dX9_isGood_11 : decode cX9_isGood 11 = .ok (.ifCond .eq 108, 3) := by decide +kernel
theorem dX9_isGood_14 : decode cX9_isGood 14 = .ok (.aload_n 0, 1) := by decide +kernel
theorem dX9_isGood_15 : decode cX9_isGood 15 = .ok (.getfield 84, 3) := by decide +kernel
theorem dX9_isGood_18 : decode cX9_isGood 18 = .ok (.ifCond .ne 39, 3) := by decide +kernel
theorem dX9_isGood_21 : decode cX9_isGood 21 = .ok (.aload_n 0, 1) := by decide +kernel
theorem dX9_isGood_22 : decode cX9_isGood 22 = .ok (.getfield 16, 3) := by decide +kernel
theorem dX9_isGood_25 : decode cX9_isGood 25 = .ok (.bipush 16, 2) := by decide +kernel
theorem dX9_isGood_27 : decode cX9_isGood 27 = .ok (.aload_n 0, 1) := by decide +kernel
theorem dX9_isGood_28 : decode cX9_isGood 28 = .ok (.getfield 87, 3) := by decide +kernel
theorem dX9_isGood_31 : decode cX9_isGood 31 = .ok (.imul, 1) := by decide +kernel
theorem dX9_isGood_32 : decode cX9_isGood 32 = .ok (.aload_n 0, 1) := by decide +kernel
theorem dX9_isGood_33 : decode cX9_isGood 33 = .ok (.getfield 13, 3) := by decide +kernel
theorem dX9_isGood_36 : decode cX9_isGood 36 = .ok (.aload_n 0, 1) := by decide +kernel
theorem dX9_isGood_37 : decode cX9_isGood 37 = .ok (.getfield 87, 3) := by decide +kernel
theorem dX9_isGood_40 : decode cX9_isGood 40 = .ok (.iaload, 1) := by decide +kernel
theorem dX9_isGood_41 : decode cX9_isGood 41 = .ok (.iadd, 1) := by decide +kernel
theorem dX9_isGood_42 : decode cX9_isGood 42 = .ok (.iconst 0, 1) := by decide +kernel
theorem dX9_isGood_43 : decode cX9_isGood 43 = .ok (.iastore, 1) := by decide +kernel
theorem dX9_isGood_44 : decode cX9_isGood 44 = .ok (.aload_n 0, 1) := by decide +kernel
theorem dX9_isGood_45 : decode cX9_isGood 45 = .ok (.getfield 13, 3) := by decide +kernel
theorem dX9_isGood_48 : decode cX9_isGood 48 = .ok (.aload_n 0, 1) := by decide +kernel
theorem dX9_isGood_49 : decode cX9_isGood 49 = .ok (.getfield 87, 3) := by decide +kernel
theorem dX9_isGood_52 : decode cX9_isGood 52 = .ok (.dup2, 1) := by decide +kernel
theorem dX9_isGood_53 : decode cX9_isGood 53 = .ok (.iaload, 1) := by decide +kernel
theorem dX9_isGood_54 : decode cX9_isGood 54 = .ok (.iconst 1, 1) := by decide +kernel
theorem dX9_isGood_55 : decode cX9_isGood 55 = .ok (.iadd, 1) := by decide +kernel
theorem dX9_isGood_56 : decode cX9_isGood 56 = .ok (.iastore, 1) := by decide +kernel
theorem dX9_isGood_57 : decode cX9_isGood 57 = .ok (.bipush 16, 2) := by decide +kernel
theorem dX9_isGood_59 : decode cX9_isGood 59 = .ok (.aload_n 0, 1) := by decide +kernel
theorem dX9_isGood_60 : decode cX9_isGood 60 = .ok (.getfield 87, 3) := by decide +kernel
theorem dX9_isGood_63 : decode cX9_isGood 63 = .ok (.imul, 1) := by decide +kernel
theorem dX9_isGood_64 : decode cX9_isGood 64 = .ok (.aload_n 0, 1) := by decide +kernel
theorem dX9_isGood_65 : decode cX9_isGood 65 = .ok (.getfield 13, 3) := by decide +kernel
theorem dX9_isGood_68 : decode cX9_isGood 68 = .ok (.aload_n 0, 1) := by decide +kernel
theorem dX9_isGood_69 : decode cX9_isGood 69 = .ok (.getfield 87, 3) := by decide +kernel
theorem dX9_isGood_72 : decode cX9_isGood 72 = .ok (.iaload, 1) := by decide +kernel
theorem dX9_isGood_73 : decode cX9_isGood 73 = .ok (.iadd, 1) := by decide +kernel
theorem dX9_isGood_74 : decode cX9_isGood 74 = .ok (.iconst 1, 1) := by decide +kernel
theorem dX9_isGood_75 : decode cX9_isGood 75 = .ok (.isub, 1) := by decide +kernel
theorem dX9_isGood_76 : decode cX9_isGood 76 = .ok (.istore_n 2, 1) := by decide +kernel
theorem dX9_isGood_77 : decode cX9_isGood 77 = .ok (.aload_n 0, 1) := by decide +kernel
theorem dX9_isGood_78 : decode cX9_isGood 78 = .ok (.getfield 16, 3) := by decide +kernel
theorem dX9_isGood_81 : decode cX9_isGood 81 = .ok (.iload_n 2, 1) := by decide +kernel
theorem dX9_isGood_82 : decode cX9_isGood 82 = .ok (.sipush 128, 3) := by decide +kernel
theorem dX9_isGood_85 : decode cX9_isGood 85 = .ok (.aload_n 0, 1) := by decide +kernel
theorem dX9_isGood_86 : decode cX9_isGood 86 = .ok (.getfield 16, 3) := by decide +kernel
theorem dX9_isGood_89 : decode cX9_isGood 89 = .ok (.iload_n 2, 1) := by decide +kernel
theorem dX9_isGood_90 : decode cX9_isGood 90 = .ok (.iaload, 1) := by decide +kernel
theorem dX9_isGood_91 : decode cX9_isGood 91 = .ok (.imul, 1) := by decide +kernel
theorem dX9_isGood_92 : decode cX9_isGood 92 = .ok (.iload_n 1, 1) := by decide +kernel
theorem dX9_isGood_93 : decode cX9_isGood 93 = .ok (.iadd, 1) := by decide +kernel
theorem dX9_isGood_94 : decode cX9_isGood 94 = .ok (.iastore, 1) := by decide +kernel
theorem dX9_isGood_95 : decode cX9_isGood 95 = .ok (.aload_n 0, 1) := by decide +kernel
theorem dX9_isGood_96 : decode cX9_isGood 96 = .ok (.dup, 1) := by decide +kernel
theorem dX9_isGood_97 : decode cX9_isGood 97 = .ok (.getfield 84, 3) := by decide +kernel
theorem dX9_isGood_100 : decode cX9_isGood 100 = .ok (.iconst 1, 1) := by decide +kernel
theorem dX9_isGood_101 : decode cX9_isGood 101 = .ok (.iadd, 1) := by decide +kernel
theorem dX9_isGood_102 : decode cX9_isGood 102 = .ok (.putfield 84, 3) := by decide +kernel
theorem dX9_isGood_105 : decode cX9_isGood 105 = .ok (.aload_n 0, 1) := by decide +kernel
theorem dX9_isGood_106 : decode cX9_isGood 106 = .ok (.getfield 84, 3) := by decide +kernel
theorem dX9_isGood_109 : decode cX9_isGood 109 = .ok (.iconst 3, 1) := by decide +kernel
theorem dX9_isGood_110 : decode cX9_isGood 110 = .ok (.if_icmp .gt 7, 3) := by decide +kernel
theorem dX9_isGood_113 : decode cX9_isGood 113 = .ok (.iconst 1, 1) := by decide +kernel
theorem dX9_isGood_114 : decode cX9_isGood 114 = .ok (.goto 4, 3) := by decide +kernel
theorem dX9_isGood_117 : decode cX9_isGood 117 = .ok (.iconst 0, 1) := by decide +kernel
theorem dX9_isGood_118 : decode cX9_isGood 118 = .ok (.ireturn, 1) := by decide +kernel
theorem dX9_isGood_119 : decode cX9_isGood 119 = .ok (.iload_n 1, 1) := by decide +kernel
theorem dX9_isGood_120 : decode cX9_isGood 120 = .ok (.bipush 44, 2) := by decide +kernel
theorem dX9_isGood_122 : decode cX9_isGood 122 = .ok (.if_icmp .ne 42, 3) := by decide +kernel
theorem dX9_isGood_125 : decode cX9_isGood 125 = .ok (.aload_n 0, 1) := by decide +kernel
theorem dX9_isGood_126 : decode cX9_isGood 126 = .ok (.getfield 84, 3) := by decide +kernel
theorem dX9_isGood_129 : decode cX9_isGood 129 = .ok (.ifCond .le 21, 3) := by decide +kernel
theorem dX9_isGood_132 : decode cX9_isGood 132 = .ok (.aload_n 0, 1) := by decide +kernel
theorem dX9_isGood_133 : decode cX9_isGood 133 = .ok (.getfield 13, 3) := by decide +kernel
theorem dX9_isGood_136 : decode cX9_isGood 136 = .ok (.aload_n 0, 1) := by decide +kernel
theorem dX9_isGood_137 : decode cX9_isGood 137 = .ok (.getfield 87, 3) := by decide +kernel
theorem dX9_isGood_140 : decode cX9_isGood 140 = .ok (.iaload, 1) := by decide +kernel
theorem dX9_isGood_141 : decode cX9_isGood 141 = .ok (.bipush 8, 2) := by decide +kernel
theorem dX9_isGood_143 : decode cX9_isGood 143 = .ok (.if_icmp .ge 7, 3) := by decide +kernel
theorem dX9_isGood_146 : decode cX9_isGood 146 = .ok (.iconst 1, 1) := by decide +kernel
theorem dX9_isGood_147 : decode cX9_isGood 147 = .ok (.goto 4, 3) := by decide +kernel
theorem dX9_isGood_150 : decode cX9_isGood 150 = .ok (.iconst 0, 1) := by decide +kernel
theorem dX9_isGood_151 : decode cX9_isGood 151 = .ok (.istore_n 2, 1) := by decide +kernel
theorem dX9_isGood_152 : decode cX9_isGood 152 = .ok (.aload_n 0, 1) := by decide +kernel
theorem dX9_isGood_153 : decode cX9_isGood 153 = .ok (.iconst 0, 1) := by decide +kernel
theorem dX9_isGood_154 : decode cX9_isGood 154 = .ok (.putfield 84, 3) := by decide +kernel
theorem dX9_isGood_157 : decode cX9_isGood 157 = .ok (.aload_n 0, 1) := by decide +kernel
theorem dX9_isGood_158 : decode cX9_isGood 158 = .ok (.iconst 1, 1) := by decide +kernel
theorem dX9_isGood_159 : decode cX9_isGood 159 = .ok (.putfield 90, 3) := by decide +kernel
theorem dX9_isGood_162 : decode cX9_isGood 162 = .ok (.iload_n 2, 1) := by decide +kernel
theorem dX9_isGood_163 : decode cX9_isGood 163 = .ok (.ireturn, 1) := by decide +kernel
theorem dX9_isGood_164 : decode cX9_isGood 164 = .ok (.iload_n 1, 1) := by decide +kernel
theorem dX9_isGood_165 : decode cX9_isGood 165 = .ok (.bipush 59, 2) := by decide +kernel
theorem dX9_isGood_167 : decode cX9_isGood 167 = .ok (.if_icmp .ne 30, 3) := by decide +kernel
theorem dX9_isGood_170 : decode cX9_isGood 170 = .ok (.aload_n 0, 1) := by decide +kernel
theorem dX9_isGood_171 : decode cX9_isGood 171 = .ok (.getfield 87, 3) := by decide +kernel
theorem dX9_isGood_174 : decode cX9_isGood 174 = .ok (.ifCond .ne 23, 3) := by decide +kernel
theorem dX9_isGood_177 : decode cX9_isGood 177 = .ok (.aload_n 0, 1) := by decide +kernel
theorem dX9_isGood_178 : decode cX9_isGood 178 = .ok (.getfield 84, 3) := by decide +kernel
theorem dX9_isGood_181 : decode cX9_isGood 181 = .ok (.ifCond .gt 12, 3) := by decide +kernel
theorem dX9_isGood_184 : decode cX9_isGood 184 = .ok (.aload_n 0, 1) := by decide +kernel
end
section
theorem dX9_isGood_185 : decode cX9_isGood 185 = .ok (.getfield 13, 3) := by decide +kernel
theorem dX9_isGood_188 : decode cX9_isGood 188 = .ok (.iconst 0, 1) := by decide +kernel
theorem dX9_isGood_189 : decode cX9_isGood 189 = .ok (.iaload, 1) := by decide +kernel
theorem dX9_isGood_190 : decode cX9_isGood 190 = .ok (.ifCond .ne 7, 3) := by decide +kernel
theorem dX9_isGood_193 : decode cX9_isGood 193 = .ok (.iconst 1, 1) := by decide +kernel
theorem dX9_isGood_194 : decode cX9_isGood 194 = .ok (.goto 4, 3) := by decide +kernel
theorem dX9_isGood_197 : decode cX9_isGood 197 = .ok (.iconst 0, 1) := by decide +kernel
theorem dX9_isGood_198 : decode cX9_isGood 198 = .ok (.istore_n 2, 1) := by decide +kernel
theorem dX9_isGood_199 : decode cX9_isGood 199 = .ok (.aload_n 0, 1) := by decide +kernel
theorem dX9_isGood_200 : decode cX9_isGood 200 = .ok (.iconst 1, 1) := by decide +kernel
theorem dX9_isGood_201 : decode cX9_isGood 201 = .ok (.putfield 87, 3) := by decide +kernel
theorem dX9_isGood_204 : decode cX9_isGood 204 = .ok (.aload_n 0, 1) := by decide +kernel
theorem dX9_isGood_205 : decode cX9_isGood 205 = .ok (.iconst 0, 1) := by decide +kernel
theorem dX9_isGood_206 : decode cX9_isGood 206 = .ok (.putfield 84, 3) := by decide +kernel
theorem dX9_isGood_209 : decode cX9_isGood 209 = .ok (.iload_n 2, 1) := by decide +kernel
theorem dX9_isGood_210 : decode cX9_isGood 210 = .ok (.ireturn, 1) := by decide +kernel
theorem dX9_faultOf_0 : decode cX9_faultOf 0 = .ok (.aload_n 0, 1) := by decide +kernel
theorem dX9_faultOf_1 : decode cX9_faultOf 1 = .ok (.iconst 0, 1) := by decide +kernel
theorem dX9_faultOf_2 : decode cX9_faultOf 2 = .ok (.putfield 87, 3) := by decide +kernel
theorem dX9_faultOf_5 : decode cX9_faultOf 5 = .ok (.aload_n 0, 1) := by decide +kernel
theorem dX9_faultOf_6 : decode cX9_faultOf 6 = .ok (.iconst 0, 1) := by decide +kernel
theorem dX9_faultOf_7 : decode cX9_faultOf 7 = .ok (.putfield 84, 3) := by decide +kernel
theorem dX9_faultOf_10 : decode cX9_faultOf 10 = .ok (.aload_n 0, 1) := by decide +kernel
theorem dX9_faultOf_11 : decode cX9_faultOf 11 = .ok (.getfield 13, 3) := by decide +kernel
theorem dX9_faultOf_14 : decode cX9_faultOf 14 = .ok (.iconst 0, 1) := by decide +kernel
theorem dX9_faultOf_15 : decode cX9_faultOf 15 = .ok (.iconst 0, 1) := by decide +kernel
theorem dX9_faultOf_16 : decode cX9_faultOf 16 = .ok (.iastore, 1) := by decide +kernel
theorem dX9_faultOf_17 : decode cX9_faultOf 17 = .ok (.aload_n 0, 1) := by decide +kernel
theorem dX9_faultOf_18 : decode cX9_faultOf 18 = .ok (.getfield 13, 3) := by decide +kernel
theorem dX9_faultOf_21 : decode cX9_faultOf 21 = .ok (.iconst 1, 1) := by decide +kernel
theorem dX9_faultOf_22 : decode cX9_faultOf 22 = .ok (.iconst 0, 1) := by decide +kernel
theorem dX9_faultOf_23 : decode cX9_faultOf 23 = .ok (.iastore, 1) := by decide +kernel
theorem dX9_faultOf_24 : decode cX9_faultOf 24 = .ok (.iconst 0, 1) := by decide +kernel
theorem dX9_faultOf_25 : decode cX9_faultOf 25 = .ok (.istore_n 1, 1) := by decide +kernel
theorem dX9_faultOf_26 : decode cX9_faultOf 26 = .ok (.iconst 1, 1) := by decide +kernel
theorem dX9_faultOf_27 : decode cX9_faultOf 27 = .ok (.istore_n 2, 1) := by decide +kernel
theorem dX9_faultOf_28 : decode cX9_faultOf 28 = .ok (.iload_n 1, 1) := by decide +kernel
theorem dX9_faultOf_29 : decode cX9_faultOf 29 = .ok (.aload_n 0, 1) := by decide +kernel
theorem dX9_faultOf_30 : decode cX9_faultOf 30 = .ok (.getfield 77, 3) := by decide +kernel
theorem dX9_faultOf_33 : decode cX9_faultOf 33 = .ok (.if_icmp .ge 38, 3) := by decide +kernel
theorem dX9_faultOf_36 : decode cX9_faultOf 36 = .ok (.iload_n 2, 1) := by decide +kernel
theorem dX9_faultOf_37 : decode cX9_faultOf 37 = .ok (.ifCond .eq 34, 3) := by decide +kernel
theorem dX9_faultOf_40 : decode cX9_faultOf 40 = .ok (.aload_n 0, 1) := by decide +kernel
theorem dX9_faultOf_41 : decode cX9_faultOf 41 = .ok (.iconst 0, 1) := by decide +kernel
theorem dX9_faultOf_42 : decode cX9_faultOf 42 = .ok (.putfield 90, 3) := by decide +kernel
theorem dX9_faultOf_45 : decode cX9_faultOf 45 = .ok (.aload_n 0, 1) := by decide +kernel
theorem dX9_faultOf_46 : decode cX9_faultOf 46 = .ok (.aload_n 0, 1) := by decide +kernel
theorem dX9_faultOf_47 : decode cX9_faultOf 47 = .ok (.getfield 7, 3) := by decide +kernel
theorem dX9_faultOf_50 : decode cX9_faultOf 50 = .ok (.iload_n 1, 1) := by decide +kernel
theorem dX9_faultOf_51 : decode cX9_faultOf 51 = .ok (.iaload, 1) := by decide +kernel
theorem dX9_faultOf_52 : decode cX9_faultOf 52 = .ok (.invokevirtual 94, 3) := by decide +kernel
theorem dX9_faultOf_55 : decode cX9_faultOf 55 = .ok (.istore_n 2, 1) := by decide +kernel
theorem dX9_faultOf_56 : decode cX9_faultOf 56 = .ok (.iload_n 1, 1) := by decide +kernel
theorem dX9_faultOf_57 : decode cX9_faultOf 57 = .ok (.iload_n 2, 1) := by decide +kernel
theorem dX9_faultOf_58 : decode cX9_faultOf 58 = .ok (.ifCond .eq 7, 3) := by decide +kernel
theorem dX9_faultOf_61 : decode cX9_faultOf 61 = .ok (.iconst 1, 1) := by decide +kernel
theorem dX9_faultOf_62 : decode cX9_faultOf 62 = .ok (.goto 4, 3) := by decide +kernel
theorem dX9_faultOf_65 : decode cX9_faultOf 65 = .ok (.iconst 0, 1) := by decide +kernel
theorem dX9_faultOf_66 : decode cX9_faultOf 66 = .ok (.iadd, 1) := by decide +kernel
theorem dX9_faultOf_67 : decode cX9_faultOf 67 = .ok (.istore_n 1, 1) := by decide +kernel
theorem dX9_faultOf_68 : decode cX9_faultOf 68 = .ok (.goto (-40), 3) := by decide +kernel
theorem dX9_faultOf_71 : decode cX9_faultOf 71 = .ok (.iload_n 1, 1) := by decide +kernel
theorem dX9_faultOf_72 : decode cX9_faultOf 72 = .ok (.ireturn, 1) := by decide +kernel
theorem dX9_fault_0 : decode cX9_fault 0 = .ok (.aload_n 0, 1) := by decide +kernel
theorem dX9_fault_1 : decode cX9_fault 1 = .ok (.invokevirtual 98, 3) := by decide +kernel
theorem dX9_fault_4 : decode cX9_fault 4 = .ok (.ireturn, 1) := by decide +kernel
theorem dX9_text_0 : decode cX9_text 0 = .ok (.aload_n 0, 1) := by decide +kernel
theorem dX9_text_1 : decode cX9_text 1 = .ok (.invokevirtual 98, 3) := by decide +kernel
theorem dX9_text_4 : decode cX9_text 4 = .ok (.aload_n 0, 1) := by decide +kernel
theorem dX9_text_5 : decode cX9_text 5 = .ok (.getfield 77, 3) := by decide +kernel
theorem dX9_text_8 : decode cX9_text 8 = .ok (.if_icmp .lt 24, 3) := by decide +kernel
theorem dX9_text_11 : decode cX9_text 11 = .ok (.aload_n 0, 1) := by decide +kernel
theorem dX9_text_12 : decode cX9_text 12 = .ok (.getfield 87, 3) := by decide +kernel
theorem dX9_text_15 : decode cX9_text 15 = .ok (.ifCond .eq 17, 3) := by decide +kernel
theorem dX9_text_18 : decode cX9_text 18 = .ok (.aload_n 0, 1) := by decide +kernel
theorem dX9_text_19 : decode cX9_text 19 = .ok (.getfield 77, 3) := by decide +kernel
theorem dX9_text_22 : decode cX9_text 22 = .ok (.ifCond .le 13, 3) := by decide +kernel
theorem dX9_text_25 : decode cX9_text 25 = .ok (.aload_n 0, 1) := by decide +kernel
theorem dX9_text_26 : decode cX9_text 26 = .ok (.getfield 90, 3) := by decide +kernel
theorem dX9_text_29 : decode cX9_text 29 = .ok (.ifCond .eq 6, 3) := by decide +kernel
theorem dX9_text_32 : decode cX9_text 32 = .ok (.bipush (-103), 2) := by decide +kernel
theorem dX9_text_34 : decode cX9_text 34 = .ok (.ireturn, 1) := by decide +kernel
theorem dX9_text_35 : decode cX9_text 35 = .ok (.aload_n 0, 1) := by decide +kernel
theorem dX9_text_36 : decode cX9_text 36 = .ok (.getfield 16, 3) := by decide +kernel
theorem dX9_text_39 : decode cX9_text 39 = .ok (.aload_n 0, 1) := by decide +kernel
theorem dX9_text_40 : decode cX9_text 40 = .ok (.getfield 19, 3) := by decide +kernel
theorem dX9_text_43 : decode cX9_text 43 = .ok (.invokestatic 102, 3) := by decide +kernel
theorem dX9_text_46 : decode cX9_text 46 = .ok (.aload_n 0, 1) := by decide +kernel
theorem dX9_text_47 : decode cX9_text 47 = .ok (.getfield 13, 3) := by decide +kernel
theorem dX9_text_50 : decode cX9_text 50 = .ok (.aload_n 0, 1) := by decide +kernel
theorem dX9_text_51 : decode cX9_text 51 = .ok (.getfield 22, 3) := by decide +kernel
theorem dX9_text_54 : decode cX9_text 54 = .ok (.invokestatic 102, 3) := by decide +kernel
theorem dX9_text_57 : decode cX9_text 57 = .ok (.aload_n 0, 1) := by decide +kernel
theorem dX9_text_58 : decode cX9_text 58 = .ok (.iconst 1, 1) := by decide +kernel
theorem dX9_text_59 : decode cX9_text 59 = .ok (.putfield 106, 3) := by decide +kernel
theorem dX9_text_62 : decode cX9_text 62 = .ok (.aload_n 0, 1) := by decide +kernel
theorem dX9_text_63 : decode cX9_text 63 = .ok (.dup, 1) := by decide +kernel
theorem dX9_text_64 : decode cX9_text 64 = .ok (.getfield 109, 3) := by decide +kernel
theorem dX9_text_67 : decode cX9_text 67 = .ok (.iconst 1, 1) := by decide +kernel
theorem dX9_text_68 : decode cX9_text 68 = .ok (.iadd, 1) := by decide +kernel
theorem dX9_text_69 : decode cX9_text 69 = .ok (.putfield 109, 3) := by decide +kernel
theorem dX9_text_72 : decode cX9_text 72 = .ok (.aload_n 0, 1) := by decide +kernel
theorem dX9_text_73 : decode cX9_text 73 = .ok (.iconst 0, 1) := by decide +kernel
theorem dX9_text_74 : decode cX9_text 74 = .ok (.putfield 77, 3) := by decide +kernel
theorem dX9_text_77 : decode cX9_text 77 = .ok (.aload_n 0, 1) := by decide +kernel
theorem dX9_text_78 : decode cX9_text 78 = .ok (.invokevirtual 112, 3) := by decide +kernel
theorem dX9_text_81 : decode cX9_text 81 = .ok (.aload_n 0, 1) := by decide +kernel
theorem dX9_text_82 : decode cX9_text 82 = .ok (.getfield 22, 3) := by decide +kernel
theorem dX9_text_85 : decode cX9_text 85 = .ok (.iconst 0, 1) := by decide +kernel
theorem dX9_text_86 : decode cX9_text 86 = .ok (.iaload, 1) := by decide +kernel
theorem dX9_text_87 : decode cX9_text 87 = .ok (.aload_n 0, 1) := by decide +kernel
theorem dX9_text_88 : decode cX9_text 88 = .ok (.getfield 22, 3) := by decide +kernel
theorem dX9_text_91 : decode cX9_text 91 = .ok (.iconst 1, 1) := by decide +kernel
theorem dX9_text_92 : decode cX9_text 92 = .ok (.iaload, 1) := by decide +kernel
theorem dX9_text_93 : decode cX9_text 93 = .ok (.iadd, 1) := by decide +kernel
theorem dX9_text_94 : decode cX9_text 94 = .ok (.ireturn, 1) := by decide +kernel
theorem dX9_isSide_0 : decode cX9_isSide 0 = .ok (.iload_n 0, 1) := by decide +kernel
theorem dX9_isSide_1 : decode cX9_isSide 1 = .ok (.ifCond .eq 8, 3) := by decide +kernel
theorem dX9_isSide_4 : decode cX9_isSide 4 = .ok (.iload_n 0, 1) := by decide +kernel
theorem dX9_isSide_5 : decode cX9_isSide 5 = .ok (.iconst 1, 1) := by decide +kernel
theorem dX9_isSide_6 : decode cX9_isSide 6 = .ok (.if_icmp .ne 7, 3) := by decide +kernel
theorem dX9_isSide_9 : decode cX9_isSide 9 = .ok (.iconst 1, 1) := by decide +kernel
theorem dX9_isSide_10 : decode cX9_isSide 10 = .ok (.goto 4, 3) := by decide +kernel
theorem dX9_isSide_13 : decode cX9_isSide 13 = .ok (.iconst 0, 1) := by decide +kernel
theorem dX9_isSide_14 : decode cX9_isSide 14 = .ok (.ireturn, 1) := by decide +kernel
theorem dX9_isLine_0 : decode cX9_isLine 0 = .ok (.iload_n 1, 1) := by decide +kernel
theorem dX9_isLine_1 : decode cX9_isLine 1 = .ok (.invokestatic 115, 3) := by decide +kernel
theorem dX9_isLine_4 : decode cX9_isLine 4 = .ok (.ifCond .eq 25, 3) := by decide +kernel
theorem dX9_isLine_7 : decode cX9_isLine 7 = .ok (.iload_n 2, 1) := by decide +kernel
theorem dX9_isLine_8 : decode cX9_isLine 8 = .ok (.i2l, 1) := by decide +kernel
theorem dX9_isLine_9 : decode cX9_isLine 9 = .ok (.lconst 0, 1) := by decide +kernel
theorem dX9_isLine_10 : decode cX9_isLine 10 = .ok (.aload_n 0, 1) := by decide +kernel
theorem dX9_isLine_11 : decode cX9_isLine 11 = .ok (.getfield 22, 3) := by decide +kernel
theorem dX9_isLine_14 : decode cX9_isLine 14 = .ok (.iload_n 1, 1) := by decide +kernel
theorem dX9_isLine_15 : decode cX9_isLine 15 = .ok (.iaload, 1) := by decide +kernel
theorem dX9_isLine_16 : decode cX9_isLine 16 = .ok (.iconst 1, 1) := by decide +kernel
theorem dX9_isLine_17 : decode cX9_isLine 17 = .ok (.isub, 1) := by decide +kernel
theorem dX9_isLine_18 : decode cX9_isLine 18 = .ok (.i2l, 1) := by decide +kernel
theorem dX9_isLine_19 : decode cX9_isLine 19 = .ok (.invokestatic 73, 3) := by decide +kernel
theorem dX9_isLine_22 : decode cX9_isLine 22 = .ok (.ifCond .eq 7, 3) := by decide +kernel
theorem dX9_isLine_25 : decode cX9_isLine 25 = .ok (.iconst 1, 1) := by decide +kernel
theorem dX9_isLine_26 : decode cX9_isLine 26 = .ok (.goto 4, 3) := by decide +kernel
theorem dX9_isLine_29 : decode cX9_isLine 29 = .ok (.iconst 0, 1) := by decide +kernel
theorem dX9_isLine_30 : decode cX9_isLine 30 = .ok (.ireturn, 1) := by decide +kernel
theorem dX9_isSame_0 : decode cX9_isSame 0 = .ok (.aload_n 0, 1) := by decide +kernel
theorem dX9_isSame_1 : decode cX9_isSame 1 = .ok (.getfield 19, 3) := by decide +kernel
theorem dX9_isSame_4 : decode cX9_isSame 4 = .ok (.iload_n 1, 1) := by decide +kernel
theorem dX9_isSame_5 : decode cX9_isSame 5 = .ok (.iaload, 1) := by decide +kernel
theorem dX9_isSame_6 : decode cX9_isSame 6 = .ok (.aload_n 0, 1) := by decide +kernel
theorem dX9_isSame_7 : decode cX9_isSame 7 = .ok (.getfield 19, 3) := by decide +kernel
theorem dX9_isSame_10 : decode cX9_isSame 10 = .ok (.bipush 16, 2) := by decide +kernel
theorem dX9_isSame_12 : decode cX9_isSame 12 = .ok (.iload_n 2, 1) := by decide +kernel
theorem dX9_isSame_13 : decode cX9_isSame 13 = .ok (.iadd, 1) := by decide +kernel
theorem dX9_isSame_14 : decode cX9_isSame 14 = .ok (.iaload, 1) := by decide +kernel
theorem dX9_isSame_15 : decode cX9_isSame 15 = .ok (.if_icmp .ne 7, 3) := by decide +kernel
theorem dX9_isSame_18 : decode cX9_isSame 18 = .ok (.iconst 1, 1) := by decide +kernel
theorem dX9_isSame_19 : decode cX9_isSame 19 = .ok (.goto 4, 3) := by decide +kernel
theorem dX9_isSame_22 : decode cX9_isSame 22 = .ok (.iconst 0, 1) := by decide +kernel
theorem dX9_isSame_23 : decode cX9_isSame 23 = .ok (.ireturn, 1) := by decide +kernel
theorem dX9_addPart_0 : decode cX9_addPart 0 = .ok (.aload_n 0, 1) := by decide +kernel
theorem dX9_addPart_1 : decode cX9_addPart 1 = .ok (.getfield 28, 3) := by decide +kernel
theorem dX9_addPart_4 : decode cX9_addPart 4 = .ok (.iconst 4, 1) := by decide +kernel
theorem dX9_addPart_5 : decode cX9_addPart 5 = .ok (.aload_n 0, 1) := by decide +kernel
theorem dX9_addPart_6 : decode cX9_addPart 6 = .ok (.getfield 118, 3) := by decide +kernel
theorem dX9_addPart_9 : decode cX9_addPart 9 = .ok (.imul, 1) := by decide +kernel
theorem dX9_addPart_10 : decode cX9_addPart 10 = .ok (.iload_n 1, 1) := by decide +kernel
theorem dX9_addPart_11 : decode cX9_addPart 11 = .ok (.iastore, 1) := by decide +kernel
theorem dX9_addPart_12 : decode cX9_addPart 12 = .ok (.aload_n 0, 1) := by decide +kernel
theorem dX9_addPart_13 : decode cX9_addPart 13 = .ok (.getfield 28, 3) := by decide +kernel
theorem dX9_addPart_16 : decode cX9_addPart 16 = .ok (.iconst 4, 1) := by decide +kernel
theorem dX9_addPart_17 : decode cX9_addPart 17 = .ok (.aload_n 0, 1) := by decide +kernel
theorem dX9_addPart_18 : decode cX9_addPart 18 = .ok (.getfield 118, 3) := by decide +kernel
theorem dX9_addPart_21 : decode cX9_addPart 21 = .ok (.imul, 1) := by decide +kernel
theorem dX9_addPart_22 : decode cX9_addPart 22 = .ok (.iconst 1, 1) := by decide +kernel
theorem dX9_addPart_23 : decode cX9_addPart 23 = .ok (.iadd, 1) := by decide +kernel
theorem dX9_addPart_24 : decode cX9_addPart 24 = .ok (.iload_n 2, 1) := by decide +kernel
theorem dX9_addPart_25 : decode cX9_addPart 25 = .ok (.iastore, 1) := by decide +kernel
theorem dX9_addPart_26 : decode cX9_addPart 26 = .ok (.aload_n 0, 1) := by decide +kernel
theorem dX9_addPart_27 : decode cX9_addPart 27 = .ok (.getfield 28, 3) := by decide +kernel
theorem dX9_addPart_30 : decode cX9_addPart 30 = .ok (.iconst 4, 1) := by decide +kernel
theorem dX9_addPart_31 : decode cX9_addPart 31 = .ok (.aload_n 0, 1) := by decide +kernel
theorem dX9_addPart_32 : decode cX9_addPart 32 = .ok (.getfield 118, 3) := by decide +kernel
theorem dX9_addPart_35 : decode cX9_addPart 35 = .ok (.imul, 1) := by decide +kernel
theorem dX9_addPart_36 : decode cX9_addPart 36 = .ok (.iconst 2, 1) := by decide +kernel
theorem dX9_addPart_37 : decode cX9_addPart 37 = .ok (.iadd, 1) := by decide +kernel
theorem dX9_addPart_38 : decode cX9_addPart 38 = .ok (.iload_n 3, 1) := by decide +kernel
theorem dX9_addPart_39 : decode cX9_addPart 39 = .ok (.iastore, 1) := by decide +kernel
theorem dX9_addPart_40 : decode cX9_addPart 40 = .ok (.aload_n 0, 1) := by decide +kernel
theorem dX9_addPart_41 : decode cX9_addPart 41 = .ok (.getfield 28, 3) := by decide +kernel
theorem dX9_addPart_44 : decode cX9_addPart 44 = .ok (.iconst 4, 1) := by decide +kernel
theorem dX9_addPart_45 : decode cX9_addPart 45 = .ok (.aload_n 0, 1) := by decide +kernel
theorem dX9_addPart_46 : decode cX9_addPart 46 = .ok (.getfield 118, 3) := by decide +kernel
theorem dX9_addPart_49 : decode cX9_addPart 49 = .ok (.imul, 1) := by decide +kernel
theorem dX9_addPart_50 : decode cX9_addPart 50 = .ok (.iconst 3, 1) := by decide +kernel
theorem dX9_addPart_51 : decode cX9_addPart 51 = .ok (.iadd, 1) := by decide +kernel
theorem dX9_addPart_52 : decode cX9_addPart 52 = .ok (.iload 4, 2) := by decide +kernel
theorem dX9_addPart_54 : decode cX9_addPart 54 = .ok (.iastore, 1) := by decide +kernel
theorem dX9_addPart_55 : decode cX9_addPart 55 = .ok (.aload_n 0, 1) := by decide +kernel
theorem dX9_addPart_56 : decode cX9_addPart 56 = .ok (.dup, 1) := by decide +kernel
theorem dX9_addPart_57 : decode cX9_addPart 57 = .ok (.getfield 118, 3) := by decide +kernel
theorem dX9_addPart_60 : decode cX9_addPart 60 = .ok (.iconst 1, 1) := by decide +kernel
theorem dX9_addPart_61 : decode cX9_addPart 61 = .ok (.iadd, 1) := by decide +kernel
theorem dX9_addPart_62 : decode cX9_addPart 62 = .ok (.putfield 118, 3) := by decide +kernel
theorem dX9_addPart_65 : decode cX9_addPart 65 = .ok (.return_, 1) := by decide +kernel
theorem dX9_keep_0 : decode cX9_keep 0 = .ok (.aload_n 0, 1) := by decide +kernel
theorem dX9_keep_1 : decode cX9_keep 1 = .ok (.getfield 25, 3) := by decide +kernel
theorem dX9_keep_4 : decode cX9_keep 4 = .ok (.iload_n 1, 1) := by decide +kernel
theorem dX9_keep_5 : decode cX9_keep 5 = .ok (.iload_n 2, 1) := by decide +kernel
theorem dX9_keep_6 : decode cX9_keep 6 = .ok (.iastore, 1) := by decide +kernel
theorem dX9_keep_7 : decode cX9_keep 7 = .ok (.aload_n 0, 1) := by decide +kernel
theorem dX9_keep_8 : decode cX9_keep 8 = .ok (.getfield 25, 3) := by decide +kernel
theorem dX9_keep_11 : decode cX9_keep 11 = .ok (.bipush 16, 2) := by decide +kernel
theorem dX9_keep_13 : decode cX9_keep 13 = .ok (.iload_n 2, 1) := by decide +kernel
theorem dX9_keep_14 : decode cX9_keep 14 = .ok (.iadd, 1) := by decide +kernel
theorem dX9_keep_15 : decode cX9_keep 15 = .ok (.iload_n 1, 1) := by decide +kernel
theorem dX9_keep_16 : decode cX9_keep 16 = .ok (.iastore, 1) := by decide +kernel
theorem dX9_keep_17 : decode cX9_keep 17 = .ok (.return_, 1) := by decide +kernel
theorem dX9_timesIn_0 : decode cX9_timesIn 0 = .ok (.iconst 0, 1) := by decide +kernel
theorem dX9_timesIn_1 : decode cX9_timesIn 1 = .ok (.istore 4, 2) := by decide +kernel
theorem dX9_timesIn_3 : decode cX9_timesIn 3 = .ok (.iload_n 2, 1) := by decide +kernel
theorem dX9_timesIn_4 : decode cX9_timesIn 4 = .ok (.istore 5, 2) := by decide +kernel
theorem dX9_timesIn_6 : decode cX9_timesIn 6 = .ok (.iload 5, 2) := by decide +kernel
theorem dX9_timesIn_8 : decode cX9_timesIn 8 = .ok (.iload_n 3, 1) := by decide +kernel
theorem dX9_timesIn_9 : decode cX9_timesIn 9 = .ok (.if_icmp .ge 30, 3) := by decide +kernel
theorem dX9_timesIn_12 : decode cX9_timesIn 12 = .ok (.iload 4, 2) := by decide +kernel
theorem dX9_timesIn_14 : decode cX9_timesIn 14 = .ok (.aload_n 0, 1) := by decide +kernel
theorem dX9_timesIn_15 : decode cX9_timesIn 15 = .ok (.getfield 19, 3) := by decide +kernel
theorem dX9_timesIn_18 : decode cX9_timesIn 18 = .ok (.iload 5, 2) := by decide +kernel
theorem dX9_timesIn_20 : decode cX9_timesIn 20 = .ok (.iaload, 1) := by decide +kernel
theorem dX9_timesIn_21 : decode cX9_timesIn 21 = .ok (.iload_n 1, 1) := by decide +kernel
theorem dX9_timesIn_22 : decode cX9_timesIn 22 = .ok (.if_icmp .ne 7, 3) := by decide +kernel
theorem dX9_timesIn_25 : decode cX9_timesIn 25 = .ok (.iconst 1, 1) := by decide +kernel
theorem dX9_timesIn_26 : decode cX9_timesIn 26 = .ok (.goto 4, 3) := by decide +kernel
theorem dX9_timesIn_29 : decode cX9_timesIn 29 = .ok (.iconst 0, 1) := by decide +kernel
theorem dX9_timesIn_30 : decode cX9_timesIn 30 = .ok (.iadd, 1) := by decide +kernel
theorem dX9_timesIn_31 : decode cX9_timesIn 31 = .ok (.istore 4, 2) := by decide +kernel
theorem dX9_timesIn_33 : decode cX9_timesIn 33 = .ok (.iinc 5 1, 3) := by decide +kernel
theorem dX9_timesIn_36 : decode cX9_timesIn 36 = .ok (.goto (-30), 3) := by decide +kernel
theorem dX9_timesIn_39 : decode cX9_timesIn 39 = .ok (.iload 4, 2) := by decide +kernel
theorem dX9_timesIn_41 : decode cX9_timesIn 41 = .ok (.ireturn, 1) := by decide +kernel
theorem dX9_layAnchors_0 : decode cX9_layAnchors 0 = .ok (.iconst 0, 1) := by decide +kernel
theorem dX9_layAnchors_1 : decode cX9_layAnchors 1 = .ok (.istore 5, 2) := by decide +kernel
theorem dX9_layAnchors_3 : decode cX9_layAnchors 3 = .ok (.iload_n 1, 1) := by decide +kernel
theorem dX9_layAnchors_4 : decode cX9_layAnchors 4 = .ok (.istore 6, 2) := by decide +kernel
theorem dX9_layAnchors_6 : decode cX9_layAnchors 6 = .ok (.iload 6, 2) := by decide +kernel
theorem dX9_layAnchors_8 : decode cX9_layAnchors 8 = .ok (.iload_n 2, 1) := by decide +kernel
theorem dX9_layAnchors_9 : decode cX9_layAnchors 9 = .ok (.if_icmp .ge 91, 3) := by decide +kernel
theorem dX9_layAnchors_12 : decode cX9_layAnchors 12 = .ok (.aload_n 0, 1) := by decide +kernel
theorem dX9_layAnchors_13 : decode cX9_layAnchors 13 = .ok (.aload_n 0, 1) := by decide +kernel
theorem dX9_layAnchors_14 : decode cX9_layAnchors 14 = .ok (.getfield 19, 3) := by decide +kernel
theorem dX9_layAnchors_17 : decode cX9_layAnchors 17 = .ok (.iload 6, 2) := by decide +kernel
theorem dX9_layAnchors_19 : decode cX9_layAnchors 19 = .ok (.iaload, 1) := by decide +kernel
theorem dX9_layAnchors_20 : decode cX9_layAnchors 20 = .ok (.iload_n 1, 1) := by decide +kernel
theorem dX9_layAnchors_21 : decode cX9_layAnchors 21 = .ok (.iload_n 2, 1) := by decide +kernel
theorem dX9_layAnchors_22 : decode cX9_layAnchors 22 = .ok (.invokevirtual 121, 3) := by decide +kernel
theorem dX9_layAnchors_25 : decode cX9_layAnchors 25 = .ok (.iconst 1, 1) := by decide +kernel
theorem dX9_layAnchors_26 : decode cX9_layAnchors 26 = .ok (.if_icmp .ne 68, 3) := by decide +kernel
theorem dX9_layAnchors_29 : decode cX9_layAnchors 29 = .ok (.aload_n 0, 1) := by decide +kernel
theorem dX9_layAnchors_30 : decode cX9_layAnchors 30 = .ok (.aload_n 0, 1) := by decide +kernel
theorem dX9_layAnchors_31 : decode cX9_layAnchors 31 = .ok (.getfield 19, 3) := by decide +kernel
theorem dX9_layAnchors_34 : decode cX9_layAnchors 34 = .ok (.iload 6, 2) := by decide +kernel
theorem dX9_layAnchors_36 : decode cX9_layAnchors 36 = .ok (.iaload, 1) := by decide +kernel
theorem dX9_layAnchors_37 : decode cX9_layAnchors 37 = .ok (.bipush 16, 2) := by decide +kernel
theorem dX9_layAnchors_39 : decode cX9_layAnchors 39 = .ok (.iload_n 3, 1) := by decide +kernel
theorem dX9_layAnchors_40 : decode cX9_layAnchors 40 = .ok (.iadd, 1) := by decide +kernel
theorem dX9_layAnchors_41 : decode cX9_layAnchors 41 = .ok (.bipush 16, 2) := by decide +kernel
theorem dX9_layAnchors_43 : decode cX9_layAnchors 43 = .ok (.iload 4, 2) := by decide +kernel
theorem dX9_layAnchors_45 : decode cX9_layAnchors 45 = .ok (.iadd, 1) := by decide +kernel
theorem dX9_layAnchors_46 : decode cX9_layAnchors 46 = .ok (.invokevirtual 121, 3) := by decide +kernel
theorem dX9_layAnchors_49 : decode cX9_layAnchors 49 = .ok (.iconst 1, 1) := by decide +kernel
theorem dX9_layAnchors_50 : decode cX9_layAnchors 50 = .ok (.if_icmp .ne 44, 3) := by decide +kernel
theorem dX9_layAnchors_53 : decode cX9_layAnchors 53 = .ok (.iload_n 3, 1) := by decide +kernel
theorem dX9_layAnchors_54 : decode cX9_layAnchors 54 = .ok (.istore 7, 2) := by decide +kernel
theorem dX9_layAnchors_56 : decode cX9_layAnchors 56 = .ok (.aload_n 0, 1) := by decide +kernel
theorem dX9_layAnchors_57 : decode cX9_layAnchors 57 = .ok (.iload 6, 2) := by decide +kernel
theorem dX9_layAnchors_59 : decode cX9_layAnchors 59 = .ok (.iload 7, 2) := by decide +kernel
theorem dX9_layAnchors_61 : decode cX9_layAnchors 61 = .ok (.invokevirtual 125, 3) := by decide +kernel
theorem dX9_layAnchors_64 : decode cX9_layAnchors 64 = .ok (.ifCond .ne 9, 3) := by decide +kernel
theorem dX9_layAnchors_67 : decode cX9_layAnchors 67 = .ok (.iinc 7 1, 3) := by decide +kernel
theorem dX9_layAnchors_70 : decode cX9_layAnchors 70 = .ok (.goto (-14), 3) := by decide +kernel
theorem dX9_layAnchors_73 : decode cX9_layAnchors 73 = .ok (.aload_n 0, 1) := by decide +kernel
theorem dX9_layAnchors_74 : decode cX9_layAnchors 74 = .ok (.getfield 31, 3) := by decide +kernel
theorem dX9_layAnchors_77 : decode cX9_layAnchors 77 = .ok (.iload 5, 2) := by decide +kernel
theorem dX9_layAnchors_79 : decode cX9_layAnchors 79 = .ok (.iload 6, 2) := by decide +kernel
theorem dX9_layAnchors_81 : decode cX9_layAnchors 81 = .ok (.iastore, 1) := by decide +kernel
theorem dX9_layAnchors_82 : decode cX9_layAnchors 82 = .ok (.aload_n 0, 1) := by decide +kernel
theorem dX9_layAnchors_83 : decode cX9_layAnchors 83 = .ok (.getfield 34, 3) := by decide +kernel
theorem dX9_layAnchors_86 : decode cX9_layAnchors 86 = .ok (.iload 5, 2) := by decide +kernel
theorem dX9_layAnchors_88 : decode cX9_layAnchors 88 = .ok (.iload 7, 2) := by decide +kernel
theorem dX9_layAnchors_90 : decode cX9_layAnchors 90 = .ok (.iastore, 1) := by decide +kernel
theorem dX9_layAnchors_91 : decode cX9_layAnchors 91 = .ok (.iinc 5 1, 3) := by decide +kernel
theorem dX9_layAnchors_94 : decode cX9_layAnchors 94 = .ok (.iinc 6 1, 3) := by decide +kernel
theorem dX9_layAnchors_97 : decode cX9_layAnchors 97 = .ok (.goto (-91), 3) := by decide +kernel
theorem dX9_layAnchors_100 : decode cX9_layAnchors 100 = .ok (.iload 5, 2) := by decide +kernel
theorem dX9_layAnchors_102 : decode cX9_layAnchors 102 = .ok (.iconst 1, 1) := by decide +kernel
theorem dX9_layAnchors_103 : decode cX9_layAnchors 103 = .ok (.isub, 1) := by decide +kernel
theorem dX9_layAnchors_104 : decode cX9_layAnchors 104 = .ok (.istore 6, 2) := by decide +kernel
theorem dX9_layAnchors_106 : decode cX9_layAnchors 106 = .ok (.iload 6, 2) := by decide +kernel
theorem dX9_layAnchors_108 : decode cX9_layAnchors 108 = .ok (.ifCond .lt 88, 3) := by decide +kernel
theorem dX9_layAnchors_111 : decode cX9_layAnchors 111 = .ok (.aload_n 0, 1) := by decide +kernel
theorem dX9_layAnchors_112 : decode cX9_layAnchors 112 = .ok (.getfield 37, 3) := by decide +kernel
theorem dX9_layAnchors_115 : decode cX9_layAnchors 115 = .ok (.iload 6, 2) := by decide +kernel
theorem dX9_layAnchors_117 : decode cX9_layAnchors 117 = .ok (.iconst 1, 1) := by decide +kernel
theorem dX9_layAnchors_118 : decode cX9_layAnchors 118 = .ok (.iastore, 1) := by decide +kernel
theorem dX9_layAnchors_119 : decode cX9_layAnchors 119 = .ok (.iload 6, 2) := by decide +kernel
theorem dX9_layAnchors_121 : decode cX9_layAnchors 121 = .ok (.iconst 1, 1) := by decide +kernel
theorem dX9_layAnchors_122 : decode cX9_layAnchors 122 = .ok (.iadd, 1) := by decide +kernel
theorem dX9_layAnchors_123 : decode cX9_layAnchors 123 = .ok (.istore 7, 2) := by decide +kernel
theorem dX9_layAnchors_125 : decode cX9_layAnchors 125 = .ok (.iload 7, 2) := by decide +kernel
theorem dX9_layAnchors_127 : decode cX9_layAnchors 127 = .ok (.iload 5, 2) := by decide +kernel
theorem dX9_layAnchors_129 : decode cX9_layAnchors 129 = .ok (.if_icmp .ge 61, 3) := by decide +kernel
theorem dX9_layAnchors_132 : decode cX9_layAnchors 132 = .ok (.aload_n 0, 1) := by decide +kernel
theorem dX9_layAnchors_133 : decode cX9_layAnchors 133 = .ok (.getfield 34, 3) := by decide +kernel
theorem dX9_layAnchors_136 : decode cX9_layAnchors 136 = .ok (.iload 7, 2) := by decide +kernel
theorem dX9_layAnchors_138 : decode cX9_layAnchors 138 = .ok (.iaload, 1) := by decide +kernel
theorem dX9_layAnchors_139 : decode cX9_layAnchors 139 = .ok (.aload_n 0, 1) := by decide +kernel
theorem dX9_layAnchors_140 : decode cX9_layAnchors 140 = .ok (.getfield 34, 3) := by decide +kernel
theorem dX9_layAnchors_143 : decode cX9_layAnchors 143 = .ok (.iload 6, 2) := by decide +kernel
theorem dX9_layAnchors_145 : decode cX9_layAnchors 145 = .ok (.iaload, 1) := by decide +kernel
theorem dX9_layAnchors_146 : decode cX9_layAnchors 146 = .ok (.if_icmp .le 38, 3) := by decide +kernel
theorem dX9_layAnchors_149 : decode cX9_layAnchors 149 = .ok (.aload_n 0, 1) := by decide +kernel
theorem dX9_layAnchors_150 : decode cX9_layAnchors 150 = .ok (.getfield 37, 3) := by decide +kernel
theorem dX9_layAnchors_153 : decode cX9_layAnchors 153 = .ok (.iload 7, 2) := by decide +kernel
theorem dX9_layAnchors_155 : decode cX9_layAnchors 155 = .ok (.iaload, 1) := by decide +kernel
theorem dX9_layAnchors_156 : decode cX9_layAnchors 156 = .ok (.iconst 1, 1) := by decide +kernel
theorem dX9_layAnchors_157 : decode cX9_layAnchors 157 = .ok (.iadd, 1) := by decide +kernel
theorem dX9_layAnchors_158 : decode cX9_layAnchors 158 = .ok (.aload_n 0, 1) := by decide +kernel
theorem dX9_layAnchors_159 : decode cX9_layAnchors 159 = .ok (.getfield 37, 3) := by decide +kernel
theorem dX9_layAnchors_162 : decode cX9_layAnchors 162 = .ok (.iload 6, 2) := by decide +kernel
theorem dX9_layAnchors_164 : decode cX9_layAnchors 164 = .ok (.iaload, 1) := by decide +kernel
theorem dX9_layAnchors_165 : decode cX9_layAnchors 165 = .ok (.if_icmp .le 19, 3) := by decide +kernel
theorem dX9_layAnchors_168 : decode cX9_layAnchors 168 = .ok (.aload_n 0, 1) := by decide +kernel
theorem dX9_layAnchors_169 : decode cX9_layAnchors 169 = .ok (.getfield 37, 3) := by decide +kernel
theorem dX9_layAnchors_172 : decode cX9_layAnchors 172 = .ok (.iload 6, 2) := by decide +kernel
theorem dX9_layAnchors_174 : decode cX9_layAnchors 174 = .ok (.aload_n 0, 1) := by decide +kernel
theorem dX9_layAnchors_175 : decode cX9_layAnchors 175 = .ok (.getfield 37, 3) := by decide +kernel
theorem dX9_layAnchors_178 : decode cX9_layAnchors 178 = .ok (.iload 7, 2) := by decide +kernel
theorem dX9_layAnchors_180 : decode cX9_layAnchors 180 = .ok (.iaload, 1) := by decide +kernel
theorem dX9_layAnchors_181 : decode cX9_layAnchors 181 = .ok (.iconst 1, 1) := by decide +kernel
theorem dX9_layAnchors_182 : decode cX9_layAnchors 182 = .ok (.iadd, 1) := by decide +kernel
theorem dX9_layAnchors_183 : decode cX9_layAnchors 183 = .ok (.iastore, 1) := by decide +kernel
theorem dX9_layAnchors_184 : decode cX9_layAnchors 184 = .ok (.iinc 7 1, 3) := by decide +kernel
theorem dX9_layAnchors_187 : decode cX9_layAnchors 187 = .ok (.goto (-62), 3) := by decide +kernel
theorem dX9_layAnchors_190 : decode cX9_layAnchors 190 = .ok (.iinc 6 (-1), 3) := by decide +kernel
theorem dX9_layAnchors_193 : decode cX9_layAnchors 193 = .ok (.goto (-87), 3) := by decide +kernel
theorem dX9_layAnchors_196 : decode cX9_layAnchors 196 = .ok (.iload 5, 2) := by decide +kernel
theorem dX9_layAnchors_198 : decode cX9_layAnchors 198 = .ok (.ireturn, 1) := by decide +kernel
theorem dX9_matchAnchors_0 : decode cX9_matchAnchors 0 = .ok (.iconst 0, 1) := by decide +kernel
theorem dX9_matchAnchors_1 : decode cX9_matchAnchors 1 = .ok (.istore 6, 2) := by decide +kernel
theorem dX9_matchAnchors_3 : decode cX9_matchAnchors 3 = .ok (.iconst 0, 1) := by decide +kernel
theorem dX9_matchAnchors_4 : decode cX9_matchAnchors 4 = .ok (.istore 7, 2) := by decide +kernel
theorem dX9_matchAnchors_6 : decode cX9_matchAnchors 6 = .ok (.iload 7, 2) := by decide +kernel
theorem dX9_matchAnchors_8 : decode cX9_matchAnchors 8 = .ok (.iload 5, 2) := by decide +kernel
theorem dX9_matchAnchors_10 : decode cX9_matchAnchors 10 = .ok (.if_icmp .ge 35, 3) := by decide +kernel
theorem dX9_matchAnchors_13 : decode cX9_matchAnchors 13 = .ok (.aload_n 0, 1) := by decide +kernel
theorem dX9_matchAnchors_14 : decode cX9_matchAnchors 14 = .ok (.getfield 37, 3) := by decide +kernel
theorem dX9_matchAnchors_17 : decode cX9_matchAnchors 17 = .ok (.iload 7, 2) := by decide +kernel
theorem dX9_matchAnchors_19 : decode cX9_matchAnchors 19 = .ok (.iaload, 1) := by decide +kernel
theorem dX9_matchAnchors_20 : decode cX9_matchAnchors 20 = .ok (.iload 6, 2) := by decide +kernel
theorem dX9_matchAnchors_22 : decode cX9_matchAnchors 22 = .ok (.if_icmp .le 13, 3) := by decide +kernel
theorem dX9_matchAnchors_25 : decode cX9_matchAnchors 25 = .ok (.aload_n 0, 1) := by decide +kernel
theorem dX9_matchAnchors_26 : decode cX9_matchAnchors 26 = .ok (.getfield 37, 3) := by decide +kernel
theorem dX9_matchAnchors_29 : decode cX9_matchAnchors 29 = .ok (.iload 7, 2) := by decide +kernel
theorem dX9_matchAnchors_31 : decode cX9_matchAnchors 31 = .ok (.iaload, 1) := by decide +kernel
theorem dX9_matchAnchors_32 : decode cX9_matchAnchors 32 = .ok (.goto 5, 3) := by decide +kernel
theorem dX9_matchAnchors_35 : decode cX9_matchAnchors 35 = .ok (.iload 6, 2) := by decide +kernel
theorem dX9_matchAnchors_37 : decode cX9_matchAnchors 37 = .ok (.istore 6, 2) := by decide +kernel
theorem dX9_matchAnchors_39 : decode cX9_matchAnchors 39 = .ok (.iinc 7 1, 3) := by decide +kernel
theorem dX9_matchAnchors_42 : decode cX9_matchAnchors 42 = .ok (.goto (-36), 3) := by decide +kernel
theorem dX9_matchAnchors_45 : decode cX9_matchAnchors 45 = .ok (.iload_n 1, 1) := by decide +kernel
theorem dX9_matchAnchors_46 : decode cX9_matchAnchors 46 = .ok (.istore 7, 2) := by decide +kernel
theorem dX9_matchAnchors_48 : decode cX9_matchAnchors 48 = .ok (.iload_n 3, 1) := by decide +kernel
theorem dX9_matchAnchors_49 : decode cX9_matchAnchors 49 = .ok (.istore 8, 2) := by decide +kernel
theorem dX9_matchAnchors_51 : decode cX9_matchAnchors 51 = .ok (.iconst (-1), 1) := by decide +kernel
theorem dX9_matchAnchors_52 : decode cX9_matchAnchors 52 = .ok (.istore 9, 2) := by decide +kernel
theorem dX9_matchAnchors_54 : decode cX9_matchAnchors 54 = .ok (.iconst 0, 1) := by decide +kernel
theorem dX9_matchAnchors_55 : decode cX9_matchAnchors 55 = .ok (.istore 10, 2) := by decide +kernel
theorem dX9_matchAnchors_57 : decode cX9_matchAnchors 57 = .ok (.iload 10, 2) := by decide +kernel
theorem dX9_matchAnchors_59 : decode cX9_matchAnchors 59 = .ok (.iload 5, 2) := by decide +kernel
theorem dX9_matchAnchors_61 : decode cX9_matchAnchors 61 = .ok (.if_icmp .ge 122, 3) := by decide +kernel
theorem dX9_matchAnchors_64 : decode cX9_matchAnchors 64 = .ok (.iload 6, 2) := by decide +kernel
theorem dX9_matchAnchors_66 : decode cX9_matchAnchors 66 = .ok (.ifCond .le 111, 3) := by decide +kernel
theorem dX9_matchAnchors_69 : decode cX9_matchAnchors 69 = .ok (.aload_n 0, 1) := by decide +kernel
theorem dX9_matchAnchors_70 : decode cX9_matchAnchors 70 = .ok (.getfield 37, 3) := by decide +kernel
theorem dX9_matchAnchors_73 : decode cX9_matchAnchors 73 = .ok (.iload 10, 2) := by decide +kernel
theorem dX9_matchAnchors_75 : decode cX9_matchAnchors 75 = .ok (.iaload, 1) := by decide +kernel
theorem dX9_matchAnchors_76 : decode cX9_matchAnchors 76 = .ok (.iload 6, 2) := by decide +kernel
theorem dX9_matchAnchors_78 : decode cX9_matchAnchors 78 = .ok (.if_icmp .ne 99, 3) := by decide +kernel
theorem dX9_matchAnchors_81 : decode cX9_matchAnchors 81 = .ok (.aload_n 0, 1) := by decide +kernel
theorem dX9_matchAnchors_82 : decode cX9_matchAnchors 82 = .ok (.getfield 34, 3) := by decide +kernel
theorem dX9_matchAnchors_85 : decode cX9_matchAnchors 85 = .ok (.iload 10, 2) := by decide +kernel
theorem dX9_matchAnchors_87 : decode cX9_matchAnchors 87 = .ok (.iaload, 1) := by decide +kernel
theorem dX9_matchAnchors_88 : decode cX9_matchAnchors 88 = .ok (.iload 9, 2) := by decide +kernel
theorem dX9_matchAnchors_90 : decode cX9_matchAnchors 90 = .ok (.if_icmp .le 87, 3) := by decide +kernel
theorem dX9_matchAnchors_93 : decode cX9_matchAnchors 93 = .ok (.aload_n 0, 1) := by decide +kernel
theorem dX9_matchAnchors_94 : decode cX9_matchAnchors 94 = .ok (.aload_n 0, 1) := by decide +kernel
theorem dX9_matchAnchors_95 : decode cX9_matchAnchors 95 = .ok (.getfield 31, 3) := by decide +kernel
theorem dX9_matchAnchors_98 : decode cX9_matchAnchors 98 = .ok (.iload 10, 2) := by decide +kernel
theorem dX9_matchAnchors_100 : decode cX9_matchAnchors 100 = .ok (.iaload, 1) := by decide +kernel
theorem dX9_matchAnchors_101 : decode cX9_matchAnchors 101 = .ok (.aload_n 0, 1) := by decide +kernel
theorem dX9_matchAnchors_102 : decode cX9_matchAnchors 102 = .ok (.getfield 34, 3) := by decide +kernel
theorem dX9_matchAnchors_105 : decode cX9_matchAnchors 105 = .ok (.iload 10, 2) := by decide +kernel
theorem dX9_matchAnchors_107 : decode cX9_matchAnchors 107 = .ok (.iaload, 1) := by decide +kernel
theorem dX9_matchAnchors_108 : decode cX9_matchAnchors 108 = .ok (.invokevirtual 129, 3) := by decide +kernel
theorem dX9_matchAnchors_111 : decode cX9_matchAnchors 111 = .ok (.aload_n 0, 1) := by decide +kernel
theorem dX9_matchAnchors_112 : decode cX9_matchAnchors 112 = .ok (.dup, 1) := by decide +kernel
theorem dX9_matchAnchors_113 : decode cX9_matchAnchors 113 = .ok (.getfield 133, 3) := by decide +kernel
theorem dX9_matchAnchors_116 : decode cX9_matchAnchors 116 = .ok (.iconst 1, 1) := by decide +kernel
theorem dX9_matchAnchors_117 : decode cX9_matchAnchors 117 = .ok (.iadd, 1) := by decide +kernel
theorem dX9_matchAnchors_118 : decode cX9_matchAnchors 118 = .ok (.putfield 133, 3) := by decide +kernel
theorem dX9_matchAnchors_121 : decode cX9_matchAnchors 121 = .ok (.aload_n 0, 1) := by decide +kernel
theorem dX9_matchAnchors_122 : decode cX9_matchAnchors 122 = .ok (.iload 7, 2) := by decide +kernel
theorem dX9_matchAnchors_124 : decode cX9_matchAnchors 124 = .ok (.aload_n 0, 1) := by decide +kernel
theorem dX9_matchAnchors_125 : decode cX9_matchAnchors 125 = .ok (.getfield 31, 3) := by decide +kernel
theorem dX9_matchAnchors_128 : decode cX9_matchAnchors 128 = .ok (.iload 10, 2) := by decide +kernel
theorem dX9_matchAnchors_130 : decode cX9_matchAnchors 130 = .ok (.iaload, 1) := by decide +kernel
theorem dX9_matchAnchors_131 : decode cX9_matchAnchors 131 = .ok (.iload 8, 2) := by decide +kernel
theorem dX9_matchAnchors_133 : decode cX9_matchAnchors 133 = .ok (.aload_n 0, 1) := by decide +kernel
theorem dX9_matchAnchors_134 : decode cX9_matchAnchors 134 = .ok (.getfield 34, 3) := by decide +kernel
theorem dX9_matchAnchors_137 : decode cX9_matchAnchors 137 = .ok (.iload 10, 2) := by decide +kernel
theorem dX9_matchAnchors_139 : decode cX9_matchAnchors 139 = .ok (.iaload, 1) := by decide +kernel
theorem dX9_matchAnchors_140 : decode cX9_matchAnchors 140 = .ok (.invokevirtual 136, 3) := by decide +kernel
theorem dX9_matchAnchors_143 : decode cX9_matchAnchors 143 = .ok (.aload_n 0, 1) := by decide +kernel
theorem dX9_matchAnchors_144 : decode cX9_matchAnchors 144 = .ok (.getfield 31, 3) := by decide +kernel
theorem dX9_matchAnchors_147 : decode cX9_matchAnchors 147 = .ok (.iload 10, 2) := by decide +kernel
theorem dX9_matchAnchors_149 : decode cX9_matchAnchors 149 = .ok (.iaload, 1) := by decide +kernel
theorem dX9_matchAnchors_150 : decode cX9_matchAnchors 150 = .ok (.iconst 1, 1) := by decide +kernel
theorem dX9_matchAnchors_151 : decode cX9_matchAnchors 151 = .ok (.iadd, 1) := by decide +kernel
theorem dX9_matchAnchors_152 : decode cX9_matchAnchors 152 = .ok (.istore 7, 2) := by decide +kernel
theorem dX9_matchAnchors_154 : decode cX9_matchAnchors 154 = .ok (.aload_n 0, 1) := by decide +kernel
theorem dX9_matchAnchors_155 : decode cX9_matchAnchors 155 = .ok (.getfield 34, 3) := by decide +kernel
theorem dX9_matchAnchors_158 : decode cX9_matchAnchors 158 = .ok (.iload 10, 2) := by decide +kernel
theorem dX9_matchAnchors_160 : decode cX9_matchAnchors 160 = .ok (.iaload, 1) := by decide +kernel
theorem dX9_matchAnchors_161 : decode cX9_matchAnchors 161 = .ok (.iconst 1, 1) := by decide +kernel
theorem dX9_matchAnchors_162 : decode cX9_matchAnchors 162 = .ok (.iadd, 1) := by decide +kernel
theorem dX9_matchAnchors_163 : decode cX9_matchAnchors 163 = .ok (.istore 8, 2) := by decide +kernel
theorem dX9_matchAnchors_165 : decode cX9_matchAnchors 165 = .ok (.aload_n 0, 1) := by decide +kernel
theorem dX9_matchAnchors_166 : decode cX9_matchAnchors 166 = .ok (.getfield 34, 3) := by decide +kernel
theorem dX9_matchAnchors_169 : decode cX9_matchAnchors 169 = .ok (.iload 10, 2) := by decide +kernel
theorem dX9_matchAnchors_171 : decode cX9_matchAnchors 171 = .ok (.iaload, 1) := by decide +kernel
theorem dX9_matchAnchors_172 : decode cX9_matchAnchors 172 = .ok (.istore 9, 2) := by decide +kernel
theorem dX9_matchAnchors_174 : decode cX9_matchAnchors 174 = .ok (.iinc 6 (-1), 3) := by decide +kernel
theorem dX9_matchAnchors_177 : decode cX9_matchAnchors 177 = .ok (.iinc 10 1, 3) := by decide +kernel
theorem dX9_matchAnchors_180 : decode cX9_matchAnchors 180 = .ok (.goto (-123), 3) := by decide +kernel
theorem dX9_matchAnchors_183 : decode cX9_matchAnchors 183 = .ok (.aload_n 0, 1) := by decide +kernel
theorem dX9_matchAnchors_184 : decode cX9_matchAnchors 184 = .ok (.iload 7, 2) := by decide +kernel
theorem dX9_matchAnchors_186 : decode cX9_matchAnchors 186 = .ok (.iload_n 2, 1) := by decide +kernel
theorem dX9_matchAnchors_187 : decode cX9_matchAnchors 187 = .ok (.iload 8, 2) := by decide +kernel
theorem dX9_matchAnchors_189 : decode cX9_matchAnchors 189 = .ok (.iload 4, 2) := by decide +kernel
theorem dX9_matchAnchors_191 : decode cX9_matchAnchors 191 = .ok (.invokevirtual 136, 3) := by decide +kernel
theorem dX9_matchAnchors_194 : decode cX9_matchAnchors 194 = .ok (.return_, 1) := by decide +kernel
theorem dX9_layCan_0 : decode cX9_layCan 0 = .ok (.iload_n 2, 1) := by decide +kernel
theorem dX9_layCan_1 : decode cX9_layCan 1 = .ok (.istore 5, 2) := by decide +kernel
theorem dX9_layCan_3 : decode cX9_layCan 3 = .ok (.iload 5, 2) := by decide +kernel
theorem dX9_layCan_5 : decode cX9_layCan 5 = .ok (.iload_n 1, 1) := by decide +kernel
theorem dX9_layCan_6 : decode cX9_layCan 6 = .ok (.if_icmp .lt 139, 3) := by decide +kernel
theorem dX9_layCan_9 : decode cX9_layCan 9 = .ok (.iload 4, 2) := by decide +kernel
theorem dX9_layCan_11 : decode cX9_layCan 11 = .ok (.istore 6, 2) := by decide +kernel
theorem dX9_layCan_13 : decode cX9_layCan 13 = .ok (.iload 6, 2) := by decide +kernel
theorem dX9_layCan_15 : decode cX9_layCan 15 = .ok (.iload_n 3, 1) := by decide +kernel
theorem dX9_layCan_16 : decode cX9_layCan 16 = .ok (.if_icmp .lt 123, 3) := by decide +kernel
theorem dX9_layCan_19 : decode cX9_layCan 19 = .ok (.iconst 0, 1) := by decide +kernel
theorem dX9_layCan_20 : decode cX9_layCan 20 = .ok (.istore 7, 2) := by decide +kernel
theorem dX9_layCan_22 : decode cX9_layCan 22 = .ok (.iload 5, 2) := by decide +kernel
theorem dX9_layCan_24 : decode cX9_layCan 24 = .ok (.iload_n 2, 1) := by decide +kernel
theorem dX9_layCan_25 : decode cX9_layCan 25 = .ok (.if_icmp .ge 93, 3) := by decide +kernel
theorem dX9_layCan_28 : decode cX9_layCan 28 = .ok (.iload 6, 2) := by decide +kernel
theorem dX9_layCan_30 : decode cX9_layCan 30 = .ok (.iload 4, 2) := by decide +kernel
theorem dX9_layCan_32 : decode cX9_layCan 32 = .ok (.if_icmp .ge 86, 3) := by decide +kernel
theorem dX9_layCan_35 : decode cX9_layCan 35 = .ok (.aload_n 0, 1) := by decide +kernel
theorem dX9_layCan_36 : decode cX9_layCan 36 = .ok (.getfield 40, 3) := by decide +kernel
theorem dX9_layCan_39 : decode cX9_layCan 39 = .ok (.bipush 9, 2) := by decide +kernel
theorem dX9_layCan_41 : decode cX9_layCan 41 = .ok (.iload 5, 2) := by decide +kernel
theorem dX9_layCan_43 : decode cX9_layCan 43 = .ok (.iconst 1, 1) := by decide +kernel
theorem dX9_layCan_44 : decode cX9_layCan 44 = .ok (.iadd, 1) := by decide +kernel
theorem dX9_layCan_45 : decode cX9_layCan 45 = .ok (.imul, 1) := by decide +kernel
theorem dX9_layCan_46 : decode cX9_layCan 46 = .ok (.iload 6, 2) := by decide +kernel
theorem dX9_layCan_48 : decode cX9_layCan 48 = .ok (.iadd, 1) := by decide +kernel
theorem dX9_layCan_49 : decode cX9_layCan 49 = .ok (.iaload, 1) := by decide +kernel
theorem dX9_layCan_50 : decode cX9_layCan 50 = .ok (.istore 8, 2) := by decide +kernel
theorem dX9_layCan_52 : decode cX9_layCan 52 = .ok (.aload_n 0, 1) := by decide +kernel
theorem dX9_layCan_53 : decode cX9_layCan 53 = .ok (.getfield 40, 3) := by decide +kernel
theorem dX9_layCan_56 : decode cX9_layCan 56 = .ok (.bipush 9, 2) := by decide +kernel
theorem dX9_layCan_58 : decode cX9_layCan 58 = .ok (.iload 5, 2) := by decide +kernel
theorem dX9_layCan_60 : decode cX9_layCan 60 = .ok (.imul, 1) := by decide +kernel
theorem dX9_layCan_61 : decode cX9_layCan 61 = .ok (.iload 6, 2) := by decide +kernel
theorem dX9_layCan_63 : decode cX9_layCan 63 = .ok (.iadd, 1) := by decide +kernel
theorem dX9_layCan_64 : decode cX9_layCan 64 = .ok (.iconst 1, 1) := by decide +kernel
theorem dX9_layCan_65 : decode cX9_layCan 65 = .ok (.iadd, 1) := by decide +kernel
theorem dX9_layCan_66 : decode cX9_layCan 66 = .ok (.iaload, 1) := by decide +kernel
theorem dX9_layCan_67 : decode cX9_layCan 67 = .ok (.istore 9, 2) := by decide +kernel
theorem dX9_layCan_69 : decode cX9_layCan 69 = .ok (.aload_n 0, 1) := by decide +kernel
theorem dX9_layCan_70 : decode cX9_layCan 70 = .ok (.iload 5, 2) := by decide +kernel
theorem dX9_layCan_72 : decode cX9_layCan 72 = .ok (.iload 6, 2) := by decide +kernel
theorem dX9_layCan_74 : decode cX9_layCan 74 = .ok (.invokevirtual 125, 3) := by decide +kernel
theorem dX9_layCan_77 : decode cX9_layCan 77 = .ok (.ifCond .eq 25, 3) := by decide +kernel
theorem dX9_layCan_80 : decode cX9_layCan 80 = .ok (.iconst 1, 1) := by decide +kernel
theorem dX9_layCan_81 : decode cX9_layCan 81 = .ok (.aload_n 0, 1) := by decide +kernel
theorem dX9_layCan_82 : decode cX9_layCan 82 = .ok (.getfield 40, 3) := by decide +kernel
theorem dX9_layCan_85 : decode cX9_layCan 85 = .ok (.bipush 9, 2) := by decide +kernel
theorem dX9_layCan_87 : decode cX9_layCan 87 = .ok (.iload 5, 2) := by decide +kernel
theorem dX9_layCan_89 : decode cX9_layCan 89 = .ok (.iconst 1, 1) := by decide +kernel
theorem dX9_layCan_90 : decode cX9_layCan 90 = .ok (.iadd, 1) := by decide +kernel
theorem dX9_layCan_91 : decode cX9_layCan 91 = .ok (.imul, 1) := by decide +kernel
theorem dX9_layCan_92 : decode cX9_layCan 92 = .ok (.iload 6, 2) := by decide +kernel
theorem dX9_layCan_94 : decode cX9_layCan 94 = .ok (.iadd, 1) := by decide +kernel
theorem dX9_layCan_95 : decode cX9_layCan 95 = .ok (.iconst 1, 1) := by decide +kernel
theorem dX9_layCan_96 : decode cX9_layCan 96 = .ok (.iadd, 1) := by decide +kernel
theorem dX9_layCan_97 : decode cX9_layCan 97 = .ok (.iaload, 1) := by decide +kernel
theorem dX9_layCan_98 : decode cX9_layCan 98 = .ok (.iadd, 1) := by decide +kernel
theorem dX9_layCan_99 : decode cX9_layCan 99 = .ok (.goto 17, 3) := by decide +kernel
theorem dX9_layCan_102 : decode cX9_layCan 102 = .ok (.iload 8, 2) := by decide +kernel
theorem dX9_layCan_104 : decode cX9_layCan 104 = .ok (.iload 9, 2) := by decide +kernel
theorem dX9_layCan_106 : decode cX9_layCan 106 = .ok (.if_icmp .le 8, 3) := by decide +kernel
theorem dX9_layCan_109 : decode cX9_layCan 109 = .ok (.iload 8, 2) := by decide +kernel
theorem dX9_layCan_111 : decode cX9_layCan 111 = .ok (.goto 5, 3) := by decide +kernel
theorem dX9_layCan_114 : decode cX9_layCan 114 = .ok (.iload 9, 2) := by decide +kernel
theorem dX9_layCan_116 : decode cX9_layCan 116 = .ok (.istore 7, 2) := by decide +kernel
theorem dX9_layCan_118 : decode cX9_layCan 118 = .ok (.aload_n 0, 1) := by decide +kernel
theorem dX9_layCan_119 : decode cX9_layCan 119 = .ok (.getfield 40, 3) := by decide +kernel
theorem dX9_layCan_122 : decode cX9_layCan 122 = .ok (.bipush 9, 2) := by decide +kernel
theorem dX9_layCan_124 : decode cX9_layCan 124 = .ok (.iload 5, 2) := by decide +kernel
theorem dX9_layCan_126 : decode cX9_layCan 126 = .ok (.imul, 1) := by decide +kernel
theorem dX9_layCan_127 : decode cX9_layCan 127 = .ok (.iload 6, 2) := by decide +kernel
theorem dX9_layCan_129 : decode cX9_layCan 129 = .ok (.iadd, 1) := by decide +kernel
theorem dX9_layCan_130 : decode cX9_layCan 130 = .ok (.iload 7, 2) := by decide +kernel
theorem dX9_layCan_132 : decode cX9_layCan 132 = .ok (.iastore, 1) := by decide +kernel
theorem dX9_layCan_133 : decode cX9_layCan 133 = .ok (.iinc 6 (-1), 3) := by decide +kernel
theorem dX9_layCan_136 : decode cX9_layCan 136 = .ok (.goto (-123), 3) := by decide +kernel
theorem dX9_layCan_139 : decode cX9_layCan 139 = .ok (.iinc 5 (-1), 3) := by decide +kernel
theorem dX9_layCan_142 : decode cX9_layCan 142 = .ok (.goto (-139), 3) := by decide +kernel
theorem dX9_layCan_145 : decode cX9_layCan 145 = .ok (.return_, 1) := by decide +kernel
theorem dX9_matchRows_0 : decode cX9_matchRows 0 = .ok (.aload_n 0, 1) := by decide +kernel
theorem dX9_matchRows_1 : decode cX9_matchRows 1 = .ok (.iload_n 1, 1) := by decide +kernel
theorem dX9_matchRows_2 : decode cX9_matchRows 2 = .ok (.iload_n 2, 1) := by decide +kernel
theorem dX9_matchRows_3 : decode cX9_matchRows 3 = .ok (.iload_n 3, 1) := by decide +kernel
theorem dX9_matchRows_4 : decode cX9_matchRows 4 = .ok (.iload 4, 2) := by decide +kernel
theorem dX9_matchRows_6 : decode cX9_matchRows 6 = .ok (.invokevirtual 140, 3) := by decide +kernel
theorem dX9_matchRows_9 : decode cX9_matchRows 9 = .ok (.iload_n 1, 1) := by decide +kernel
theorem dX9_matchRows_10 : decode cX9_matchRows 10 = .ok (.istore 5, 2) := by decide +kernel
theorem dX9_matchRows_12 : decode cX9_matchRows 12 = .ok (.iload_n 3, 1) := by decide +kernel
theorem dX9_matchRows_13 : decode cX9_matchRows 13 = .ok (.istore 6, 2) := by decide +kernel
theorem dX9_matchRows_15 : decode cX9_matchRows 15 = .ok (.iload 5, 2) := by decide +kernel
theorem dX9_matchRows_17 : decode cX9_matchRows 17 = .ok (.iload_n 2, 1) := by decide +kernel
theorem dX9_matchRows_18 : decode cX9_matchRows 18 = .ok (.if_icmp .ge 83, 3) := by decide +kernel
theorem dX9_matchRows_21 : decode cX9_matchRows 21 = .ok (.iload 6, 2) := by decide +kernel
theorem dX9_matchRows_23 : decode cX9_matchRows 23 = .ok (.iload 4, 2) := by decide +kernel
theorem dX9_matchRows_25 : decode cX9_matchRows 25 = .ok (.if_icmp .ge 76, 3) := by decide +kernel
theorem dX9_matchRows_28 : decode cX9_matchRows 28 = .ok (.aload_n 0, 1) := by decide +kernel
theorem dX9_matchRows_29 : decode cX9_matchRows 29 = .ok (.iload 5, 2) := by decide +kernel
theorem dX9_matchRows_31 : decode cX9_matchRows 31 = .ok (.iload 6, 2) := by decide +kernel
theorem dX9_matchRows_33 : decode cX9_matchRows 33 = .ok (.invokevirtual 125, 3) := by decide +kernel
theorem dX9_matchRows_36 : decode cX9_matchRows 36 = .ok (.ifCond .eq 20, 3) := by decide +kernel
theorem dX9_matchRows_39 : decode cX9_matchRows 39 = .ok (.aload_n 0, 1) := by decide +kernel
theorem dX9_matchRows_40 : decode cX9_matchRows 40 = .ok (.iload 5, 2) := by decide +kernel
theorem dX9_matchRows_42 : decode cX9_matchRows 42 = .ok (.iload 6, 2) := by decide +kernel
theorem dX9_matchRows_44 : decode cX9_matchRows 44 = .ok (.invokevirtual 129, 3) := by decide +kernel
theorem dX9_matchRows_47 : decode cX9_matchRows 47 = .ok (.iinc 5 1, 3) := by decide +kernel
theorem dX9_matchRows_50 : decode cX9_matchRows 50 = .ok (.iinc 6 1, 3) := by decide +kernel
theorem dX9_matchRows_53 : decode cX9_matchRows 53 = .ok (.goto (-38), 3) := by decide +kernel
theorem dX9_matchRows_56 : decode cX9_matchRows 56 = .ok (.aload_n 0, 1) := by decide +kernel
theorem dX9_matchRows_57 : decode cX9_matchRows 57 = .ok (.getfield 40, 3) := by decide +kernel
theorem dX9_matchRows_60 : decode cX9_matchRows 60 = .ok (.bipush 9, 2) := by decide +kernel
theorem dX9_matchRows_62 : decode cX9_matchRows 62 = .ok (.iload 5, 2) := by decide +kernel
theorem dX9_matchRows_64 : decode cX9_matchRows 64 = .ok (.iconst 1, 1) := by decide +kernel
theorem dX9_matchRows_65 : decode cX9_matchRows 65 = .ok (.iadd, 1) := by decide +kernel
theorem dX9_matchRows_66 : decode cX9_matchRows 66 = .ok (.imul, 1) := by decide +kernel
theorem dX9_matchRows_67 : decode cX9_matchRows 67 = .ok (.iload 6, 2) := by decide +kernel
theorem dX9_matchRows_69 : decode cX9_matchRows 69 = .ok (.iadd, 1) := by decide +kernel
theorem dX9_matchRows_70 : decode cX9_matchRows 70 = .ok (.iaload, 1) := by decide +kernel
theorem dX9_matchRows_71 : decode cX9_matchRows 71 = .ok (.aload_n 0, 1) := by decide +kernel
theorem dX9_matchRows_72 : decode cX9_matchRows 72 = .ok (.getfield 40, 3) := by decide +kernel
theorem dX9_matchRows_75 : decode cX9_matchRows 75 = .ok (.bipush 9, 2) := by decide +kernel
theorem dX9_matchRows_77 : decode cX9_matchRows 77 = .ok (.iload 5, 2) := by decide +kernel
theorem dX9_matchRows_79 : decode cX9_matchRows 79 = .ok (.imul, 1) := by decide +kernel
theorem dX9_matchRows_80 : decode cX9_matchRows 80 = .ok (.iload 6, 2) := by decide +kernel
theorem dX9_matchRows_82 : decode cX9_matchRows 82 = .ok (.iadd, 1) := by decide +kernel
theorem dX9_matchRows_83 : decode cX9_matchRows 83 = .ok (.iconst 1, 1) := by decide +kernel
theorem dX9_matchRows_84 : decode cX9_matchRows 84 = .ok (.iadd, 1) := by decide +kernel
theorem dX9_matchRows_85 : decode cX9_matchRows 85 = .ok (.iaload, 1) := by decide +kernel
theorem dX9_matchRows_86 : decode cX9_matchRows 86 = .ok (.if_icmp .lt 9, 3) := by decide +kernel
theorem dX9_matchRows_89 : decode cX9_matchRows 89 = .ok (.iinc 5 1, 3) := by decide +kernel
theorem dX9_matchRows_92 : decode cX9_matchRows 92 = .ok (.goto (-77), 3) := by decide +kernel
theorem dX9_matchRows_95 : decode cX9_matchRows 95 = .ok (.iinc 6 1, 3) := by decide +kernel
theorem dX9_matchRows_98 : decode cX9_matchRows 98 = .ok (.goto (-83), 3) := by decide +kernel
theorem dX9_matchRows_101 : decode cX9_matchRows 101 = .ok (.return_, 1) := by decide +kernel
theorem dX9_matchPart_0 : decode cX9_matchPart 0 = .ok (.iload_n 1, 1) := by decide +kernel
theorem dX9_matchPart_1 : decode cX9_matchPart 1 = .ok (.istore 5, 2) := by decide +kernel
theorem dX9_matchPart_3 : decode cX9_matchPart 3 = .ok (.iload_n 2, 1) := by decide +kernel
theorem dX9_matchPart_4 : decode cX9_matchPart 4 = .ok (.istore 6, 2) := by decide +kernel
theorem dX9_matchPart_6 : decode cX9_matchPart 6 = .ok (.iload_n 3, 1) := by decide +kernel
theorem dX9_matchPart_7 : decode cX9_matchPart 7 = .ok (.istore 7, 2) := by decide +kernel
theorem dX9_matchPart_9 : decode cX9_matchPart 9 = .ok (.iload 4, 2) := by decide +kernel
theorem dX9_matchPart_11 : decode cX9_matchPart 11 = .ok (.istore 8, 2) := by decide +kernel
theorem dX9_matchPart_13 : decode cX9_matchPart 13 = .ok (.iload 5, 2) := by decide +kernel
theorem dX9_matchPart_15 : decode cX9_matchPart 15 = .ok (.iload 6, 2) := by decide +kernel
theorem dX9_matchPart_17 : decode cX9_matchPart 17 = .ok (.if_icmp .ge 38, 3) := by decide +kernel
theorem dX9_matchPart_20 : decode cX9_matchPart 20 = .ok (.iload 7, 2) := by decide +kernel
theorem dX9_matchPart_22 : decode cX9_matchPart 22 = .ok (.iload 8, 2) := by decide +kernel
theorem dX9_matchPart_24 : decode cX9_matchPart 24 = .ok (.if_icmp .ge 31, 3) := by decide +kernel
theorem dX9_matchPart_27 : decode cX9_matchPart 27 = .ok (.aload_n 0, 1) := by decide +kernel
theorem dX9_matchPart_28 : decode cX9_matchPart 28 = .ok (.iload 5, 2) := by decide +kernel
theorem dX9_matchPart_30 : decode cX9_matchPart 30 = .ok (.iload 7, 2) := by decide +kernel
theorem dX9_matchPart_32 : decode cX9_matchPart 32 = .ok (.invokevirtual 125, 3) := by decide +kernel
theorem dX9_matchPart_35 : decode cX9_matchPart 35 = .ok (.ifCond .eq 20, 3) := by decide +kernel
theorem dX9_matchPart_38 : decode cX9_matchPart 38 = .ok (.aload_n 0, 1) := by decide +kernel
theorem dX9_matchPart_39 : decode cX9_matchPart 39 = .ok (.iload 5, 2) := by decide +kernel
theorem dX9_matchPart_41 : decode cX9_matchPart 41 = .ok (.iload 7, 2) := by decide +kernel
theorem dX9_matchPart_43 : decode cX9_matchPart 43 = .ok (.invokevirtual 129, 3) := by decide +kernel
theorem dX9_matchPart_46 : decode cX9_matchPart 46 = .ok (.iinc 5 1, 3) := by decide +kernel
theorem dX9_matchPart_49 : decode cX9_matchPart 49 = .ok (.iinc 7 1, 3) := by decide +kernel
theorem dX9_matchPart_52 : decode cX9_matchPart 52 = .ok (.goto (-39), 3) := by decide +kernel
theorem dX9_matchPart_55 : decode cX9_matchPart 55 = .ok (.iload 5, 2) := by decide +kernel
theorem dX9_matchPart_57 : decode cX9_matchPart 57 = .ok (.iload 6, 2) := by decide +kernel
theorem dX9_matchPart_59 : decode cX9_matchPart 59 = .ok (.if_icmp .ge 42, 3) := by decide +kernel
theorem dX9_matchPart_62 : decode cX9_matchPart 62 = .ok (.iload 7, 2) := by decide +kernel
theorem dX9_matchPart_64 : decode cX9_matchPart 64 = .ok (.iload 8, 2) := by decide +kernel
theorem dX9_matchPart_66 : decode cX9_matchPart 66 = .ok (.if_icmp .ge 35, 3) := by decide +kernel
theorem dX9_matchPart_69 : decode cX9_matchPart 69 = .ok (.aload_n 0, 1) := by decide +kernel
theorem dX9_matchPart_70 : decode cX9_matchPart 70 = .ok (.iload 6, 2) := by decide +kernel
theorem dX9_matchPart_72 : decode cX9_matchPart 72 = .ok (.iconst 1, 1) := by decide +kernel
theorem dX9_matchPart_73 : decode cX9_matchPart 73 = .ok (.isub, 1) := by decide +kernel
theorem dX9_matchPart_74 : decode cX9_matchPart 74 = .ok (.iload 8, 2) := by decide +kernel
theorem dX9_matchPart_76 : decode cX9_matchPart 76 = .ok (.iconst 1, 1) := by decide +kernel
theorem dX9_matchPart_77 : decode cX9_matchPart 77 = .ok (.isub, 1) := by decide +kernel
theorem dX9_matchPart_78 : decode cX9_matchPart 78 = .ok (.invokevirtual 125, 3) := by decide +kernel
theorem dX9_matchPart_81 : decode cX9_matchPart 81 = .ok (.ifCond .eq 20, 3) := by decide +kernel
theorem dX9_matchPart_84 : decode cX9_matchPart 84 = .ok (.iinc 6 (-1), 3) := by decide +kernel
theorem dX9_matchPart_87 : decode cX9_matchPart 87 = .ok (.iinc 8 (-1), 3) := by decide +kernel
theorem dX9_matchPart_90 : decode cX9_matchPart 90 = .ok (.aload_n 0, 1) := by decide +kernel
theorem dX9_matchPart_91 : decode cX9_matchPart 91 = .ok (.iload 6, 2) := by decide +kernel
theorem dX9_matchPart_93 : decode cX9_matchPart 93 = .ok (.iload 8, 2) := by decide +kernel
theorem dX9_matchPart_95 : decode cX9_matchPart 95 = .ok (.invokevirtual 129, 3) := by decide +kernel
theorem dX9_matchPart_98 : decode cX9_matchPart 98 = .ok (.goto (-43), 3) := by decide +kernel
theorem dX9_matchPart_101 : decode cX9_matchPart 101 = .ok (.iload 5, 2) := by decide +kernel
theorem dX9_matchPart_103 : decode cX9_matchPart 103 = .ok (.iload 6, 2) := by decide +kernel
theorem dX9_matchPart_105 : decode cX9_matchPart 105 = .ok (.if_icmp .ge 58, 3) := by decide +kernel
theorem dX9_matchPart_108 : decode cX9_matchPart 108 = .ok (.iload 7, 2) := by decide +kernel
theorem dX9_matchPart_110 : decode cX9_matchPart 110 = .ok (.iload 8, 2) := by decide +kernel
theorem dX9_matchPart_112 : decode cX9_matchPart 112 = .ok (.if_icmp .ge 51, 3) := by decide +kernel
theorem dX9_matchPart_115 : decode cX9_matchPart 115 = .ok (.aload_n 0, 1) := by decide +kernel
theorem dX9_matchPart_116 : decode cX9_matchPart 116 = .ok (.iload 5, 2) := by decide +kernel
theorem dX9_matchPart_118 : decode cX9_matchPart 118 = .ok (.iload 6, 2) := by decide +kernel
theorem dX9_matchPart_120 : decode cX9_matchPart 120 = .ok (.iload 7, 2) := by decide +kernel
theorem dX9_matchPart_122 : decode cX9_matchPart 122 = .ok (.iload 8, 2) := by decide +kernel
theorem dX9_matchPart_124 : decode cX9_matchPart 124 = .ok (.invokevirtual 143, 3) := by decide +kernel
theorem dX9_matchPart_127 : decode cX9_matchPart 127 = .ok (.istore 9, 2) := by decide +kernel
theorem dX9_matchPart_129 : decode cX9_matchPart 129 = .ok (.iload 9, 2) := by decide +kernel
theorem dX9_matchPart_131 : decode cX9_matchPart 131 = .ok (.ifCond .le 20, 3) := by decide +kernel
theorem dX9_matchPart_134 : decode cX9_matchPart 134 = .ok (.aload_n 0, 1) := by decide +kernel
theorem dX9_matchPart_135 : decode cX9_matchPart 135 = .ok (.iload 5, 2) := by decide +kernel
theorem dX9_matchPart_137 : decode cX9_matchPart 137 = .ok (.iload 6, 2) := by decide +kernel
theorem dX9_matchPart_139 : decode cX9_matchPart 139 = .ok (.iload 7, 2) := by decide +kernel
theorem dX9_matchPart_141 : decode cX9_matchPart 141 = .ok (.iload 8, 2) := by decide +kernel
theorem dX9_matchPart_143 : decode cX9_matchPart 143 = .ok (.iload 9, 2) := by decide +kernel
theorem dX9_matchPart_145 : decode cX9_matchPart 145 = .ok (.invokevirtual 147, 3) := by decide +kernel
theorem dX9_matchPart_148 : decode cX9_matchPart 148 = .ok (.goto 15, 3) := by decide +kernel
theorem dX9_matchPart_151 : decode cX9_matchPart 151 = .ok (.aload_n 0, 1) := by decide +kernel
theorem dX9_matchPart_152 : decode cX9_matchPart 152 = .ok (.iload 5, 2) := by decide +kernel
theorem dX9_matchPart_154 : decode cX9_matchPart 154 = .ok (.iload 6, 2) := by decide +kernel
theorem dX9_matchPart_156 : decode cX9_matchPart 156 = .ok (.iload 7, 2) := by decide +kernel
theorem dX9_matchPart_158 : decode cX9_matchPart 158 = .ok (.iload 8, 2) := by decide +kernel
theorem dX9_matchPart_160 : decode cX9_matchPart 160 = .ok (.invokevirtual 151, 3) := by decide +kernel
theorem dX9_matchPart_163 : decode cX9_matchPart 163 = .ok (.return_, 1) := by decide +kernel
theorem dX9_matchAll_0 : decode cX9_matchAll 0 = .ok (.iconst 0, 1) := by decide +kernel
theorem dX9_matchAll_1 : decode cX9_matchAll 1 = .ok (.istore_n 1, 1) := by decide +kernel
theorem dX9_matchAll_2 : decode cX9_matchAll 2 = .ok (.iload_n 1, 1) := by decide +kernel
theorem dX9_matchAll_3 : decode cX9_matchAll 3 = .ok (.bipush 32, 2) := by decide +kernel
theorem dX9_matchAll_5 : decode cX9_matchAll 5 = .ok (.if_icmp .ge 16, 3) := by decide +kernel
theorem dX9_matchAll_8 : decode cX9_matchAll 8 = .ok (.aload_n 0, 1) := by decide +kernel
theorem dX9_matchAll_9 : decode cX9_matchAll 9 = .ok (.getfield 25, 3) := by decide +kernel
theorem dX9_matchAll_12 : decode cX9_matchAll 12 = .ok (.iload_n 1, 1) := by decide +kernel
theorem dX9_matchAll_13 : decode cX9_matchAll 13 = .ok (.iconst (-1), 1) := by decide +kernel
theorem dX9_matchAll_14 : decode cX9_matchAll 14 = .ok (.iastore, 1) := by decide +kernel
theorem dX9_matchAll_15 : decode cX9_matchAll 15 = .ok (.iinc 1 1, 3) := by decide +kernel
theorem dX9_matchAll_18 : decode cX9_matchAll 18 = .ok (.goto (-16), 3) := by decide +kernel
theorem dX9_matchAll_21 : decode cX9_matchAll 21 = .ok (.aload_n 0, 1) := by decide +kernel
theorem dX9_matchAll_22 : decode cX9_matchAll 22 = .ok (.iconst 0, 1) := by decide +kernel
theorem dX9_matchAll_23 : decode cX9_matchAll 23 = .ok (.putfield 133, 3) := by decide +kernel
theorem dX9_matchAll_26 : decode cX9_matchAll 26 = .ok (.aload_n 0, 1) := by decide +kernel
theorem dX9_matchAll_27 : decode cX9_matchAll 27 = .ok (.iconst 0, 1) := by decide +kernel
theorem dX9_matchAll_28 : decode cX9_matchAll 28 = .ok (.putfield 118, 3) := by decide +kernel
theorem dX9_matchAll_31 : decode cX9_matchAll 31 = .ok (.aload_n 0, 1) := by decide +kernel
theorem dX9_matchAll_32 : decode cX9_matchAll 32 = .ok (.iconst 0, 1) := by decide +kernel
theorem dX9_matchAll_33 : decode cX9_matchAll 33 = .ok (.aload_n 0, 1) := by decide +kernel
theorem dX9_matchAll_34 : decode cX9_matchAll 34 = .ok (.getfield 22, 3) := by decide +kernel
theorem dX9_matchAll_37 : decode cX9_matchAll 37 = .ok (.iconst 0, 1) := by decide +kernel
theorem dX9_matchAll_38 : decode cX9_matchAll 38 = .ok (.iaload, 1) := by decide +kernel
theorem dX9_matchAll_39 : decode cX9_matchAll 39 = .ok (.iconst 0, 1) := by decide +kernel
theorem dX9_matchAll_40 : decode cX9_matchAll 40 = .ok (.aload_n 0, 1) := by decide +kernel
theorem dX9_matchAll_41 : decode cX9_matchAll 41 = .ok (.getfield 22, 3) := by decide +kernel
theorem dX9_matchAll_44 : decode cX9_matchAll 44 = .ok (.iconst 1, 1) := by decide +kernel
theorem dX9_matchAll_45 : decode cX9_matchAll 45 = .ok (.iaload, 1) := by decide +kernel
theorem dX9_matchAll_46 : decode cX9_matchAll 46 = .ok (.invokevirtual 136, 3) := by decide +kernel
theorem dX9_matchAll_49 : decode cX9_matchAll 49 = .ok (.aload_n 0, 1) := by decide +kernel
theorem dX9_matchAll_50 : decode cX9_matchAll 50 = .ok (.getfield 118, 3) := by decide +kernel
theorem dX9_matchAll_53 : decode cX9_matchAll 53 = .ok (.ifCond .le 70, 3) := by decide +kernel
theorem dX9_matchAll_56 : decode cX9_matchAll 56 = .ok (.aload_n 0, 1) := by decide +kernel
theorem dX9_matchAll_57 : decode cX9_matchAll 57 = .ok (.dup, 1) := by decide +kernel
theorem dX9_matchAll_58 : decode cX9_matchAll 58 = .ok (.getfield 118, 3) := by decide +kernel
theorem dX9_matchAll_61 : decode cX9_matchAll 61 = .ok (.iconst 1, 1) := by decide +kernel
theorem dX9_matchAll_62 : decode cX9_matchAll 62 = .ok (.isub, 1) := by decide +kernel
theorem dX9_matchAll_63 : decode cX9_matchAll 63 = .ok (.putfield 118, 3) := by decide +kernel
theorem dX9_matchAll_66 : decode cX9_matchAll 66 = .ok (.aload_n 0, 1) := by decide +kernel
theorem dX9_matchAll_67 : decode cX9_matchAll 67 = .ok (.aload_n 0, 1) := by decide +kernel
theorem dX9_matchAll_68 : decode cX9_matchAll 68 = .ok (.getfield 28, 3) := by decide +kernel
theorem dX9_matchAll_71 : decode cX9_matchAll 71 = .ok (.iconst 4, 1) := by decide +kernel
theorem dX9_matchAll_72 : decode cX9_matchAll 72 = .ok (.aload_n 0, 1) := by decide +kernel
theorem dX9_matchAll_73 : decode cX9_matchAll 73 = .ok (.getfield 118, 3) := by decide +kernel
theorem dX9_matchAll_76 : decode cX9_matchAll 76 = .ok (.imul, 1) := by decide +kernel
theorem dX9_matchAll_77 : decode cX9_matchAll 77 = .ok (.iaload, 1) := by decide +kernel
theorem dX9_matchAll_78 : decode cX9_matchAll 78 = .ok (.aload_n 0, 1) := by decide +kernel
theorem dX9_matchAll_79 : decode cX9_matchAll 79 = .ok (.getfield 28, 3) := by decide +kernel
theorem dX9_matchAll_82 : decode cX9_matchAll 82 = .ok (.iconst 4, 1) := by decide +kernel
theorem dX9_matchAll_83 : decode cX9_matchAll 83 = .ok (.aload_n 0, 1) := by decide +kernel
theorem dX9_matchAll_84 : decode cX9_matchAll 84 = .ok (.getfield 118, 3) := by decide +kernel
theorem dX9_matchAll_87 : decode cX9_matchAll 87 = .ok (.imul, 1) := by decide +kernel
theorem dX9_matchAll_88 : decode cX9_matchAll 88 = .ok (.iconst 1, 1) := by decide +kernel
theorem dX9_matchAll_89 : decode cX9_matchAll 89 = .ok (.iadd, 1) := by decide +kernel
theorem dX9_matchAll_90 : decode cX9_matchAll 90 = .ok (.iaload, 1) := by decide +kernel
theorem dX9_matchAll_91 : decode cX9_matchAll 91 = .ok (.aload_n 0, 1) := by decide +kernel
theorem dX9_matchAll_92 : decode cX9_matchAll 92 = .ok (.getfield 28, 3) := by decide +kernel
theorem dX9_matchAll_95 : decode cX9_matchAll 95 = .ok (.iconst 4, 1) := by decide +kernel
theorem dX9_matchAll_96 : decode cX9_matchAll 96 = .ok (.aload_n 0, 1) := by decide +kernel
theorem dX9_matchAll_97 : decode cX9_matchAll 97 = .ok (.getfield 118, 3) := by decide +kernel
theorem dX9_matchAll_100 : decode cX9_matchAll 100 = .ok (.imul, 1) := by decide +kernel
theorem dX9_matchAll_101 : decode cX9_matchAll 101 = .ok (.iconst 2, 1) := by decide +kernel
theorem dX9_matchAll_102 : decode cX9_matchAll 102 = .ok (.iadd, 1) := by decide +kernel
theorem dX9_matchAll_103 : decode cX9_matchAll 103 = .ok (.iaload, 1) := by decide +kernel
theorem dX9_matchAll_104 : decode cX9_matchAll 104 = .ok (.aload_n 0, 1) := by decide +kernel
theorem dX9_matchAll_105 : decode cX9_matchAll 105 = .ok (.getfield 28, 3) := by decide +kernel
theorem dX9_matchAll_108 : decode cX9_matchAll 108 = .ok (.iconst 4, 1) := by decide +kernel
theorem dX9_matchAll_109 : decode cX9_matchAll 109 = .ok (.aload_n 0, 1) := by decide +kernel
theorem dX9_matchAll_110 : decode cX9_matchAll 110 = .ok (.getfield 118, 3) := by decide +kernel
theorem dX9_matchAll_113 : decode cX9_matchAll 113 = .ok (.imul, 1) := by decide +kernel
theorem dX9_matchAll_114 : decode cX9_matchAll 114 = .ok (.iconst 3, 1) := by decide +kernel
theorem dX9_matchAll_115 : decode cX9_matchAll 115 = .ok (.iadd, 1) := by decide +kernel
theorem dX9_matchAll_116 : decode cX9_matchAll 116 = .ok (.iaload, 1) := by decide +kernel
theorem dX9_matchAll_117 : decode cX9_matchAll 117 = .ok (.invokevirtual 154, 3) := by decide +kernel
theorem dX9_matchAll_120 : decode cX9_matchAll 120 = .ok (.goto (-71), 3) := by decide +kernel
theorem dX9_matchAll_123 : decode cX9_matchAll 123 = .ok (.return_, 1) := by decide +kernel
theorem dX9_countGap_0 : decode cX9_countGap 0 = .ok (.iconst 0, 1) := by decide +kernel
theorem dX9_countGap_1 : decode cX9_countGap 1 = .ok (.istore_n 3, 1) := by decide +kernel
theorem dX9_countGap_2 : decode cX9_countGap 2 = .ok (.iload_n 2, 1) := by decide +kernel
theorem dX9_countGap_3 : decode cX9_countGap 3 = .ok (.iload_n 3, 1) := by decide +kernel
theorem dX9_countGap_4 : decode cX9_countGap 4 = .ok (.iadd, 1) := by decide +kernel
theorem dX9_countGap_5 : decode cX9_countGap 5 = .ok (.aload_n 0, 1) := by decide +kernel
theorem dX9_countGap_6 : decode cX9_countGap 6 = .ok (.getfield 22, 3) := by decide +kernel
theorem dX9_countGap_9 : decode cX9_countGap 9 = .ok (.iload_n 1, 1) := by decide +kernel
theorem dX9_countGap_10 : decode cX9_countGap 10 = .ok (.iaload, 1) := by decide +kernel
theorem dX9_countGap_11 : decode cX9_countGap 11 = .ok (.if_icmp .ge 26, 3) := by decide +kernel
theorem dX9_countGap_14 : decode cX9_countGap 14 = .ok (.aload_n 0, 1) := by decide +kernel
theorem dX9_countGap_15 : decode cX9_countGap 15 = .ok (.getfield 25, 3) := by decide +kernel
theorem dX9_countGap_18 : decode cX9_countGap 18 = .ok (.bipush 16, 2) := by decide +kernel
theorem dX9_countGap_20 : decode cX9_countGap 20 = .ok (.iload_n 1, 1) := by decide +kernel
theorem dX9_countGap_21 : decode cX9_countGap 21 = .ok (.imul, 1) := by decide +kernel
theorem dX9_countGap_22 : decode cX9_countGap 22 = .ok (.iload_n 2, 1) := by decide +kernel
theorem dX9_countGap_23 : decode cX9_countGap 23 = .ok (.iadd, 1) := by decide +kernel
theorem dX9_countGap_24 : decode cX9_countGap 24 = .ok (.iload_n 3, 1) := by decide +kernel
theorem dX9_countGap_25 : decode cX9_countGap 25 = .ok (.iadd, 1) := by decide +kernel
theorem dX9_countGap_26 : decode cX9_countGap 26 = .ok (.iaload, 1) := by decide +kernel
theorem dX9_countGap_27 : decode cX9_countGap 27 = .ok (.iconst (-1), 1) := by decide +kernel
theorem dX9_countGap_28 : decode cX9_countGap 28 = .ok (.if_icmp .ne 9, 3) := by decide +kernel
theorem dX9_countGap_31 : decode cX9_countGap 31 = .ok (.iinc 3 1, 3) := by decide +kernel
theorem dX9_countGap_34 : decode cX9_countGap 34 = .ok (.goto (-32), 3) := by decide +kernel
theorem dX9_countGap_37 : decode cX9_countGap 37 = .ok (.iload_n 3, 1) := by decide +kernel
theorem dX9_countGap_38 : decode cX9_countGap 38 = .ok (.ireturn, 1) := by decide +kernel
theorem dX9_countBack_0 : decode cX9_countBack 0 = .ok (.iconst 0, 1) := by decide +kernel
theorem dX9_countBack_1 : decode cX9_countBack 1 = .ok (.istore_n 3, 1) := by decide +kernel
theorem dX9_countBack_2 : decode cX9_countBack 2 = .ok (.iload_n 2, 1) := by decide +kernel
theorem dX9_countBack_3 : decode cX9_countBack 3 = .ok (.iload_n 3, 1) := by decide +kernel
theorem dX9_countBack_4 : decode cX9_countBack 4 = .ok (.isub, 1) := by decide +kernel
theorem dX9_countBack_5 : decode cX9_countBack 5 = .ok (.ifCond .le 28, 3) := by decide +kernel
theorem dX9_countBack_8 : decode cX9_countBack 8 = .ok (.aload_n 0, 1) := by decide +kernel
theorem dX9_countBack_9 : decode cX9_countBack 9 = .ok (.getfield 25, 3) := by decide +kernel
theorem dX9_countBack_12 : decode cX9_countBack 12 = .ok (.bipush 16, 2) := by decide +kernel
theorem dX9_countBack_14 : decode cX9_countBack 14 = .ok (.iload_n 1, 1) := by decide +kernel
theorem dX9_countBack_15 : decode cX9_countBack 15 = .ok (.imul, 1) := by decide +kernel
theorem dX9_countBack_16 : decode cX9_countBack 16 = .ok (.iload_n 2, 1) := by decide +kernel
theorem dX9_countBack_17 : decode cX9_countBack 17 = .ok (.iadd, 1) := by decide +kernel
theorem dX9_countBack_18 : decode cX9_countBack 18 = .ok (.iload_n 3, 1) := by decide +kernel
theorem dX9_countBack_19 : decode cX9_countBack 19 = .ok (.isub, 1) := by decide +kernel
theorem dX9_countBack_20 : decode cX9_countBack 20 = .ok (.iconst 1, 1) := by decide +kernel
theorem dX9_countBack_21 : decode cX9_countBack 21 = .ok (.isub, 1) := by decide +kernel
theorem dX9_countBack_22 : decode cX9_countBack 22 = .ok (.iaload, 1) := by decide +kernel
theorem dX9_countBack_23 : decode cX9_countBack 23 = .ok (.iconst (-1), 1) := by decide +kernel
theorem dX9_countBack_24 : decode cX9_countBack 24 = .ok (.if_icmp .ne 9, 3) := by decide +kernel
theorem dX9_countBack_27 : decode cX9_countBack 27 = .ok (.iinc 3 1, 3) := by decide +kernel
theorem dX9_countBack_30 : decode cX9_countBack 30 = .ok (.goto (-28), 3) := by decide +kernel
theorem dX9_countBack_33 : decode cX9_countBack 33 = .ok (.iload_n 3, 1) := by decide +kernel
theorem dX9_countBack_34 : decode cX9_countBack 34 = .ok (.ireturn, 1) := by decide +kernel
theorem dX9_isSliding_0 : decode cX9_isSliding 0 = .ok (.iload_n 2, 1) := by decide +kernel
theorem dX9_isSliding_1 : decode cX9_isSliding 1 = .ok (.iload_n 3, 1) := by decide +kernel
theorem dX9_isSliding_2 : decode cX9_isSliding 2 = .ok (.isub, 1) := by decide +kernel
theorem dX9_isSliding_3 : decode cX9_isSliding 3 = .ok (.iconst 1, 1) := by decide +kernel
theorem dX9_isSliding_4 : decode cX9_isSliding 4 = .ok (.isub, 1) := by decide +kernel
theorem dX9_isSliding_5 : decode cX9_isSliding 5 = .ok (.istore 4, 2) := by decide +kernel
theorem dX9_isSliding_7 : decode cX9_isSliding 7 = .ok (.iload 4, 2) := by decide +kernel
theorem dX9_isSliding_9 : decode cX9_isSliding 9 = .ok (.ifCond .lt 35, 3) := by decide +kernel
theorem dX9_isSliding_12 : decode cX9_isSliding 12 = .ok (.aload_n 0, 1) := by decide +kernel
theorem dX9_isSliding_13 : decode cX9_isSliding 13 = .ok (.getfield 19, 3) := by decide +kernel
theorem dX9_isSliding_16 : decode cX9_isSliding 16 = .ok (.bipush 16, 2) := by decide +kernel
theorem dX9_isSliding_18 : decode cX9_isSliding 18 = .ok (.iload_n 1, 1) := by decide +kernel
theorem dX9_isSliding_19 : decode cX9_isSliding 19 = .ok (.imul, 1) := by decide +kernel
theorem dX9_isSliding_20 : decode cX9_isSliding 20 = .ok (.iload_n 2, 1) := by decide +kernel
theorem dX9_isSliding_21 : decode cX9_isSliding 21 = .ok (.iadd, 1) := by decide +kernel
theorem dX9_isSliding_22 : decode cX9_isSliding 22 = .ok (.iconst 1, 1) := by decide +kernel
theorem dX9_isSliding_23 : decode cX9_isSliding 23 = .ok (.isub, 1) := by decide +kernel
theorem dX9_isSliding_24 : decode cX9_isSliding 24 = .ok (.iaload, 1) := by decide +kernel
theorem dX9_isSliding_25 : decode cX9_isSliding 25 = .ok (.aload_n 0, 1) := by decide +kernel
theorem dX9_isSliding_26 : decode cX9_isSliding 26 = .ok (.getfield 19, 3) := by decide +kernel
theorem dX9_isSliding_29 : decode cX9_isSliding 29 = .ok (.bipush 16, 2) := by decide +kernel
theorem dX9_isSliding_31 : decode cX9_isSliding 31 = .ok (.iload_n 1, 1) := by decide +kernel
theorem dX9_isSliding_32 : decode cX9_isSliding 32 = .ok (.imul, 1) := by decide +kernel
theorem dX9_isSliding_33 : decode cX9_isSliding 33 = .ok (.iload 4, 2) := by decide +kernel
theorem dX9_isSliding_35 : decode cX9_isSliding 35 = .ok (.iadd, 1) := by decide +kernel
theorem dX9_isSliding_36 : decode cX9_isSliding 36 = .ok (.iaload, 1) := by decide +kernel
theorem dX9_isSliding_37 : decode cX9_isSliding 37 = .ok (.if_icmp .ne 7, 3) := by decide +kernel
theorem dX9_isSliding_40 : decode cX9_isSliding 40 = .ok (.iconst 1, 1) := by decide +kernel
theorem dX9_isSliding_41 : decode cX9_isSliding 41 = .ok (.goto 4, 3) := by decide +kernel
theorem dX9_isSliding_44 : decode cX9_isSliding 44 = .ok (.iconst 0, 1) := by decide +kernel
theorem dX9_isSliding_45 : decode cX9_isSliding 45 = .ok (.ireturn, 1) := by decide +kernel
theorem dX9_slide_0 : decode cX9_slide 0 = .ok (.iload_n 2, 1) := by decide +kernel
theorem dX9_slide_1 : decode cX9_slide 1 = .ok (.iload_n 3, 1) := by decide +kernel
theorem dX9_slide_2 : decode cX9_slide 2 = .ok (.isub, 1) := by decide +kernel
theorem dX9_slide_3 : decode cX9_slide 3 = .ok (.iconst 1, 1) := by decide +kernel
theorem dX9_slide_4 : decode cX9_slide 4 = .ok (.isub, 1) := by decide +kernel
theorem dX9_slide_5 : decode cX9_slide 5 = .ok (.istore 4, 2) := by decide +kernel
theorem dX9_slide_7 : decode cX9_slide 7 = .ok (.aload_n 0, 1) := by decide +kernel
theorem dX9_slide_8 : decode cX9_slide 8 = .ok (.getfield 25, 3) := by decide +kernel
theorem dX9_slide_11 : decode cX9_slide 11 = .ok (.bipush 16, 2) := by decide +kernel
theorem dX9_slide_13 : decode cX9_slide 13 = .ok (.iload_n 1, 1) := by decide +kernel
theorem dX9_slide_14 : decode cX9_slide 14 = .ok (.imul, 1) := by decide +kernel
theorem dX9_slide_15 : decode cX9_slide 15 = .ok (.iload 4, 2) := by decide +kernel
theorem dX9_slide_17 : decode cX9_slide 17 = .ok (.iadd, 1) := by decide +kernel
theorem dX9_slide_18 : decode cX9_slide 18 = .ok (.iaload, 1) := by decide +kernel
theorem dX9_slide_19 : decode cX9_slide 19 = .ok (.istore 5, 2) := by decide +kernel
theorem dX9_slide_21 : decode cX9_slide 21 = .ok (.aload_n 0, 1) := by decide +kernel
theorem dX9_slide_22 : decode cX9_slide 22 = .ok (.getfield 25, 3) := by decide +kernel
theorem dX9_slide_25 : decode cX9_slide 25 = .ok (.bipush 16, 2) := by decide +kernel
theorem dX9_slide_27 : decode cX9_slide 27 = .ok (.iload_n 1, 1) := by decide +kernel
theorem dX9_slide_28 : decode cX9_slide 28 = .ok (.imul, 1) := by decide +kernel
theorem dX9_slide_29 : decode cX9_slide 29 = .ok (.iload 4, 2) := by decide +kernel
theorem dX9_slide_31 : decode cX9_slide 31 = .ok (.iadd, 1) := by decide +kernel
theorem dX9_slide_32 : decode cX9_slide 32 = .ok (.iconst (-1), 1) := by decide +kernel
theorem dX9_slide_33 : decode cX9_slide 33 = .ok (.iastore, 1) := by decide +kernel
theorem dX9_slide_34 : decode cX9_slide 34 = .ok (.aload_n 0, 1) := by decide +kernel
theorem dX9_slide_35 : decode cX9_slide 35 = .ok (.getfield 25, 3) := by decide +kernel
theorem dX9_slide_38 : decode cX9_slide 38 = .ok (.bipush 16, 2) := by decide +kernel
theorem dX9_slide_40 : decode cX9_slide 40 = .ok (.iload_n 1, 1) := by decide +kernel
theorem dX9_slide_41 : decode cX9_slide 41 = .ok (.imul, 1) := by decide +kernel
theorem dX9_slide_42 : decode cX9_slide 42 = .ok (.iload_n 2, 1) := by decide +kernel
theorem dX9_slide_43 : decode cX9_slide 43 = .ok (.iadd, 1) := by decide +kernel
theorem dX9_slide_44 : decode cX9_slide 44 = .ok (.iconst 1, 1) := by decide +kernel
theorem dX9_slide_45 : decode cX9_slide 45 = .ok (.isub, 1) := by decide +kernel
theorem dX9_slide_46 : decode cX9_slide 46 = .ok (.iload 5, 2) := by decide +kernel
theorem dX9_slide_48 : decode cX9_slide 48 = .ok (.iastore, 1) := by decide +kernel
theorem dX9_slide_49 : decode cX9_slide 49 = .ok (.aload_n 0, 1) := by decide +kernel
theorem dX9_slide_50 : decode cX9_slide 50 = .ok (.getfield 25, 3) := by decide +kernel
theorem dX9_slide_53 : decode cX9_slide 53 = .ok (.bipush 16, 2) := by decide +kernel
theorem dX9_slide_55 : decode cX9_slide 55 = .ok (.iconst 1, 1) := by decide +kernel
theorem dX9_slide_56 : decode cX9_slide 56 = .ok (.iload_n 1, 1) := by decide +kernel
theorem dX9_slide_57 : decode cX9_slide 57 = .ok (.isub, 1) := by decide +kernel
theorem dX9_slide_58 : decode cX9_slide 58 = .ok (.imul, 1) := by decide +kernel
theorem dX9_slide_59 : decode cX9_slide 59 = .ok (.iload 5, 2) := by decide +kernel
theorem dX9_slide_61 : decode cX9_slide 61 = .ok (.iadd, 1) := by decide +kernel
theorem dX9_slide_62 : decode cX9_slide 62 = .ok (.iload_n 2, 1) := by decide +kernel
theorem dX9_slide_63 : decode cX9_slide 63 = .ok (.iconst 1, 1) := by decide +kernel
theorem dX9_slide_64 : decode cX9_slide 64 = .ok (.isub, 1) := by decide +kernel
theorem dX9_slide_65 : decode cX9_slide 65 = .ok (.iastore, 1) := by decide +kernel
theorem dX9_slide_66 : decode cX9_slide 66 = .ok (.aload_n 0, 1) := by decide +kernel
theorem dX9_slide_67 : decode cX9_slide 67 = .ok (.dup, 1) := by decide +kernel
theorem dX9_slide_68 : decode cX9_slide 68 = .ok (.getfield 157, 3) := by decide +kernel
theorem dX9_slide_71 : decode cX9_slide 71 = .ok (.iconst 1, 1) := by decide +kernel
theorem dX9_slide_72 : decode cX9_slide 72 = .ok (.iadd, 1) := by decide +kernel
theorem dX9_slide_73 : decode cX9_slide 73 = .ok (.putfield 157, 3) := by decide +kernel
theorem dX9_slide_76 : decode cX9_slide 76 = .ok (.return_, 1) := by decide +kernel
theorem dX9_slideGap_0 : decode cX9_slideGap 0 = .ok (.iconst 0, 1) := by decide +kernel
theorem dX9_slideGap_1 : decode cX9_slideGap 1 = .ok (.istore 5, 2) := by decide +kernel
theorem dX9_slideGap_3 : decode cX9_slideGap 3 = .ok (.iconst 0, 1) := by decide +kernel
theorem dX9_slideGap_4 : decode cX9_slideGap 4 = .ok (.istore 6, 2) := by decide +kernel
theorem dX9_slideGap_6 : decode cX9_slideGap 6 = .ok (.iload 6, 2) := by decide +kernel
theorem dX9_slideGap_8 : decode cX9_slideGap 8 = .ok (.ifCond .ne 87, 3) := by decide +kernel
theorem dX9_slideGap_11 : decode cX9_slideGap 11 = .ok (.aload_n 0, 1) := by decide +kernel
theorem dX9_slideGap_12 : decode cX9_slideGap 12 = .ok (.iload_n 1, 1) := by decide +kernel
theorem dX9_slideGap_13 : decode cX9_slideGap 13 = .ok (.iload_n 1, 1) := by decide +kernel
theorem dX9_slideGap_14 : decode cX9_slideGap 14 = .ok (.ifCond .ne 10, 3) := by decide +kernel
theorem dX9_slideGap_17 : decode cX9_slideGap 17 = .ok (.iload_n 2, 1) := by decide +kernel
theorem dX9_slideGap_18 : decode cX9_slideGap 18 = .ok (.iload 5, 2) := by decide +kernel
theorem dX9_slideGap_20 : decode cX9_slideGap 20 = .ok (.isub, 1) := by decide +kernel
theorem dX9_slideGap_21 : decode cX9_slideGap 21 = .ok (.goto 7, 3) := by decide +kernel
theorem dX9_slideGap_24 : decode cX9_slideGap 24 = .ok (.iload_n 3, 1) := by decide +kernel
theorem dX9_slideGap_25 : decode cX9_slideGap 25 = .ok (.iload 5, 2) := by decide +kernel
theorem dX9_slideGap_27 : decode cX9_slideGap 27 = .ok (.isub, 1) := by decide +kernel
theorem dX9_slideGap_28 : decode cX9_slideGap 28 = .ok (.iload 4, 2) := by decide +kernel
theorem dX9_slideGap_30 : decode cX9_slideGap 30 = .ok (.invokevirtual 160, 3) := by decide +kernel
theorem dX9_slideGap_33 : decode cX9_slideGap 33 = .ok (.ifCond .eq 62, 3) := by decide +kernel
theorem dX9_slideGap_36 : decode cX9_slideGap 36 = .ok (.aload_n 0, 1) := by decide +kernel
theorem dX9_slideGap_37 : decode cX9_slideGap 37 = .ok (.iload_n 1, 1) := by decide +kernel
theorem dX9_slideGap_38 : decode cX9_slideGap 38 = .ok (.iload_n 1, 1) := by decide +kernel
theorem dX9_slideGap_39 : decode cX9_slideGap 39 = .ok (.ifCond .ne 10, 3) := by decide +kernel
theorem dX9_slideGap_42 : decode cX9_slideGap 42 = .ok (.iload_n 2, 1) := by decide +kernel
theorem dX9_slideGap_43 : decode cX9_slideGap 43 = .ok (.iload 5, 2) := by decide +kernel
theorem dX9_slideGap_45 : decode cX9_slideGap 45 = .ok (.isub, 1) := by decide +kernel
theorem dX9_slideGap_46 : decode cX9_slideGap 46 = .ok (.goto 7, 3) := by decide +kernel
theorem dX9_slideGap_49 : decode cX9_slideGap 49 = .ok (.iload_n 3, 1) := by decide +kernel
theorem dX9_slideGap_50 : decode cX9_slideGap 50 = .ok (.iload 5, 2) := by decide +kernel
theorem dX9_slideGap_52 : decode cX9_slideGap 52 = .ok (.isub, 1) := by decide +kernel
theorem dX9_slideGap_53 : decode cX9_slideGap 53 = .ok (.iload 4, 2) := by decide +kernel
theorem dX9_slideGap_55 : decode cX9_slideGap 55 = .ok (.invokevirtual 164, 3) := by decide +kernel
theorem dX9_slideGap_58 : decode cX9_slideGap 58 = .ok (.iinc 5 1, 3) := by decide +kernel
theorem dX9_slideGap_61 : decode cX9_slideGap 61 = .ok (.aload_n 0, 1) := by decide +kernel
theorem dX9_slideGap_62 : decode cX9_slideGap 62 = .ok (.iconst 0, 1) := by decide +kernel
theorem dX9_slideGap_63 : decode cX9_slideGap 63 = .ok (.iload_n 2, 1) := by decide +kernel
theorem dX9_slideGap_64 : decode cX9_slideGap 64 = .ok (.iload 5, 2) := by decide +kernel
theorem dX9_slideGap_66 : decode cX9_slideGap 66 = .ok (.isub, 1) := by decide +kernel
theorem dX9_slideGap_67 : decode cX9_slideGap 67 = .ok (.invokevirtual 168, 3) := by decide +kernel
theorem dX9_slideGap_70 : decode cX9_slideGap 70 = .ok (.aload_n 0, 1) := by decide +kernel
theorem dX9_slideGap_71 : decode cX9_slideGap 71 = .ok (.iconst 1, 1) := by decide +kernel
theorem dX9_slideGap_72 : decode cX9_slideGap 72 = .ok (.iload_n 3, 1) := by decide +kernel
theorem dX9_slideGap_73 : decode cX9_slideGap 73 = .ok (.iload 5, 2) := by decide +kernel
theorem dX9_slideGap_75 : decode cX9_slideGap 75 = .ok (.isub, 1) := by decide +kernel
theorem dX9_slideGap_76 : decode cX9_slideGap 76 = .ok (.invokevirtual 168, 3) := by decide +kernel
theorem dX9_slideGap_79 : decode cX9_slideGap 79 = .ok (.iadd, 1) := by decide +kernel
theorem dX9_slideGap_80 : decode cX9_slideGap 80 = .ok (.iload 4, 2) := by decide +kernel
theorem dX9_slideGap_82 : decode cX9_slideGap 82 = .ok (.if_icmp .le 7, 3) := by decide +kernel
theorem dX9_slideGap_85 : decode cX9_slideGap 85 = .ok (.iconst 1, 1) := by decide +kernel
theorem dX9_slideGap_86 : decode cX9_slideGap 86 = .ok (.goto 4, 3) := by decide +kernel
theorem dX9_slideGap_89 : decode cX9_slideGap 89 = .ok (.iconst 0, 1) := by decide +kernel
theorem dX9_slideGap_90 : decode cX9_slideGap 90 = .ok (.istore 6, 2) := by decide +kernel
theorem dX9_slideGap_92 : decode cX9_slideGap 92 = .ok (.goto (-86), 3) := by decide +kernel
theorem dX9_slideGap_95 : decode cX9_slideGap 95 = .ok (.iload 5, 2) := by decide +kernel
theorem dX9_slideGap_97 : decode cX9_slideGap 97 = .ok (.ireturn, 1) := by decide +kernel
theorem dX9_slideAll_0 : decode cX9_slideAll 0 = .ok (.aload_n 0, 1) := by decide +kernel
theorem dX9_slideAll_1 : decode cX9_slideAll 1 = .ok (.iconst 0, 1) := by decide +kernel
theorem dX9_slideAll_2 : decode cX9_slideAll 2 = .ok (.putfield 157, 3) := by decide +kernel
theorem dX9_slideAll_5 : decode cX9_slideAll 5 = .ok (.aload_n 0, 1) := by decide +kernel
theorem dX9_slideAll_6 : decode cX9_slideAll 6 = .ok (.getfield 22, 3) := by decide +kernel
theorem dX9_slideAll_9 : decode cX9_slideAll 9 = .ok (.iconst 0, 1) := by decide +kernel
theorem dX9_slideAll_10 : decode cX9_slideAll 10 = .ok (.iaload, 1) := by decide +kernel
theorem dX9_slideAll_11 : decode cX9_slideAll 11 = .ok (.istore_n 1, 1) := by decide +kernel
theorem dX9_slideAll_12 : decode cX9_slideAll 12 = .ok (.aload_n 0, 1) := by decide +kernel
theorem dX9_slideAll_13 : decode cX9_slideAll 13 = .ok (.getfield 22, 3) := by decide +kernel
theorem dX9_slideAll_16 : decode cX9_slideAll 16 = .ok (.iconst 1, 1) := by decide +kernel
theorem dX9_slideAll_17 : decode cX9_slideAll 17 = .ok (.iaload, 1) := by decide +kernel
theorem dX9_slideAll_18 : decode cX9_slideAll 18 = .ok (.istore_n 2, 1) := by decide +kernel
theorem dX9_slideAll_19 : decode cX9_slideAll 19 = .ok (.iload_n 1, 1) := by decide +kernel
theorem dX9_slideAll_20 : decode cX9_slideAll 20 = .ok (.ifCond .gt 7, 3) := by decide +kernel
theorem dX9_slideAll_23 : decode cX9_slideAll 23 = .ok (.iload_n 2, 1) := by decide +kernel
theorem dX9_slideAll_24 : decode cX9_slideAll 24 = .ok (.ifCond .le 111, 3) := by decide +kernel
theorem dX9_slideAll_27 : decode cX9_slideAll 27 = .ok (.aload_n 0, 1) := by decide +kernel
theorem dX9_slideAll_28 : decode cX9_slideAll 28 = .ok (.iconst 0, 1) := by decide +kernel
theorem dX9_slideAll_29 : decode cX9_slideAll 29 = .ok (.iload_n 1, 1) := by decide +kernel
theorem dX9_slideAll_30 : decode cX9_slideAll 30 = .ok (.invokevirtual 168, 3) := by decide +kernel
theorem dX9_slideAll_33 : decode cX9_slideAll 33 = .ok (.istore_n 3, 1) := by decide +kernel
theorem dX9_slideAll_34 : decode cX9_slideAll 34 = .ok (.aload_n 0, 1) := by decide +kernel
theorem dX9_slideAll_35 : decode cX9_slideAll 35 = .ok (.iconst 1, 1) := by decide +kernel
theorem dX9_slideAll_36 : decode cX9_slideAll 36 = .ok (.iload_n 2, 1) := by decide +kernel
theorem dX9_slideAll_37 : decode cX9_slideAll 37 = .ok (.invokevirtual 168, 3) := by decide +kernel
theorem dX9_slideAll_40 : decode cX9_slideAll 40 = .ok (.istore 4, 2) := by decide +kernel
theorem dX9_slideAll_42 : decode cX9_slideAll 42 = .ok (.iload_n 3, 1) := by decide +kernel
theorem dX9_slideAll_43 : decode cX9_slideAll 43 = .ok (.iload 4, 2) := by decide +kernel
theorem dX9_slideAll_45 : decode cX9_slideAll 45 = .ok (.iadd, 1) := by decide +kernel
theorem dX9_slideAll_46 : decode cX9_slideAll 46 = .ok (.ifCond .ne 12, 3) := by decide +kernel
theorem dX9_slideAll_49 : decode cX9_slideAll 49 = .ok (.iinc 1 (-1), 3) := by decide +kernel
theorem dX9_slideAll_52 : decode cX9_slideAll 52 = .ok (.iinc 2 (-1), 3) := by decide +kernel
theorem dX9_slideAll_55 : decode cX9_slideAll 55 = .ok (.goto 77, 3) := by decide +kernel
theorem dX9_slideAll_58 : decode cX9_slideAll 58 = .ok (.iload_n 3, 1) := by decide +kernel
theorem dX9_slideAll_59 : decode cX9_slideAll 59 = .ok (.ifCond .eq 8, 3) := by decide +kernel
theorem dX9_slideAll_62 : decode cX9_slideAll 62 = .ok (.iload 4, 2) := by decide +kernel
theorem dX9_slideAll_64 : decode cX9_slideAll 64 = .ok (.ifCond .ne 7, 3) := by decide +kernel
theorem dX9_slideAll_67 : decode cX9_slideAll 67 = .ok (.iconst 1, 1) := by decide +kernel
theorem dX9_slideAll_68 : decode cX9_slideAll 68 = .ok (.goto 4, 3) := by decide +kernel
theorem dX9_slideAll_71 : decode cX9_slideAll 71 = .ok (.iconst 0, 1) := by decide +kernel
theorem dX9_slideAll_72 : decode cX9_slideAll 72 = .ok (.istore 5, 2) := by decide +kernel
theorem dX9_slideAll_74 : decode cX9_slideAll 74 = .ok (.iload 5, 2) := by decide +kernel
theorem dX9_slideAll_76 : decode cX9_slideAll 76 = .ok (.ifCond .eq 25, 3) := by decide +kernel
theorem dX9_slideAll_79 : decode cX9_slideAll 79 = .ok (.aload_n 0, 1) := by decide +kernel
theorem dX9_slideAll_80 : decode cX9_slideAll 80 = .ok (.iload_n 3, 1) := by decide +kernel
theorem dX9_slideAll_81 : decode cX9_slideAll 81 = .ok (.ifCond .le 7, 3) := by decide +kernel
theorem dX9_slideAll_84 : decode cX9_slideAll 84 = .ok (.iconst 0, 1) := by decide +kernel
theorem dX9_slideAll_85 : decode cX9_slideAll 85 = .ok (.goto 4, 3) := by decide +kernel
theorem dX9_slideAll_88 : decode cX9_slideAll 88 = .ok (.iconst 1, 1) := by decide +kernel
theorem dX9_slideAll_89 : decode cX9_slideAll 89 = .ok (.iload_n 1, 1) := by decide +kernel
theorem dX9_slideAll_90 : decode cX9_slideAll 90 = .ok (.iload_n 2, 1) := by decide +kernel
theorem dX9_slideAll_91 : decode cX9_slideAll 91 = .ok (.iload_n 3, 1) := by decide +kernel
theorem dX9_slideAll_92 : decode cX9_slideAll 92 = .ok (.iload 4, 2) := by decide +kernel
theorem dX9_slideAll_94 : decode cX9_slideAll 94 = .ok (.iadd, 1) := by decide +kernel
theorem dX9_slideAll_95 : decode cX9_slideAll 95 = .ok (.invokevirtual 172, 3) := by decide +kernel
theorem dX9_slideAll_98 : decode cX9_slideAll 98 = .ok (.goto 4, 3) := by decide +kernel
theorem dX9_slideAll_101 : decode cX9_slideAll 101 = .ok (.iconst 0, 1) := by decide +kernel
theorem dX9_slideAll_102 : decode cX9_slideAll 102 = .ok (.istore 6, 2) := by decide +kernel
theorem dX9_slideAll_104 : decode cX9_slideAll 104 = .ok (.iload_n 1, 1) := by decide +kernel
theorem dX9_slideAll_105 : decode cX9_slideAll 105 = .ok (.iload 6, 2) := by decide +kernel
theorem dX9_slideAll_107 : decode cX9_slideAll 107 = .ok (.isub, 1) := by decide +kernel
theorem dX9_slideAll_108 : decode cX9_slideAll 108 = .ok (.istore_n 1, 1) := by decide +kernel
theorem dX9_slideAll_109 : decode cX9_slideAll 109 = .ok (.iload_n 2, 1) := by decide +kernel
theorem dX9_slideAll_110 : decode cX9_slideAll 110 = .ok (.iload 6, 2) := by decide +kernel
theorem dX9_slideAll_112 : decode cX9_slideAll 112 = .ok (.isub, 1) := by decide +kernel
theorem dX9_slideAll_113 : decode cX9_slideAll 113 = .ok (.istore_n 2, 1) := by decide +kernel
theorem dX9_slideAll_114 : decode cX9_slideAll 114 = .ok (.iload_n 1, 1) := by decide +kernel
theorem dX9_slideAll_115 : decode cX9_slideAll 115 = .ok (.aload_n 0, 1) := by decide +kernel
theorem dX9_slideAll_116 : decode cX9_slideAll 116 = .ok (.iconst 0, 1) := by decide +kernel
theorem dX9_slideAll_117 : decode cX9_slideAll 117 = .ok (.iload_n 1, 1) := by decide +kernel
theorem dX9_slideAll_118 : decode cX9_slideAll 118 = .ok (.invokevirtual 168, 3) := by decide +kernel
theorem dX9_slideAll_121 : decode cX9_slideAll 121 = .ok (.isub, 1) := by decide +kernel
theorem dX9_slideAll_122 : decode cX9_slideAll 122 = .ok (.istore_n 1, 1) := by decide +kernel
theorem dX9_slideAll_123 : decode cX9_slideAll 123 = .ok (.iload_n 2, 1) := by decide +kernel
theorem dX9_slideAll_124 : decode cX9_slideAll 124 = .ok (.aload_n 0, 1) := by decide +kernel
theorem dX9_slideAll_125 : decode cX9_slideAll 125 = .ok (.iconst 1, 1) := by decide +kernel
theorem dX9_slideAll_126 : decode cX9_slideAll 126 = .ok (.iload_n 2, 1) := by decide +kernel
theorem dX9_slideAll_127 : decode cX9_slideAll 127 = .ok (.invokevirtual 168, 3) := by decide +kernel
theorem dX9_slideAll_130 : decode cX9_slideAll 130 = .ok (.isub, 1) := by decide +kernel
theorem dX9_slideAll_131 : decode cX9_slideAll 131 = .ok (.istore_n 2, 1) := by decide +kernel
theorem dX9_slideAll_132 : decode cX9_slideAll 132 = .ok (.goto (-113), 3) := by decide +kernel
theorem dX9_slideAll_135 : decode cX9_slideAll 135 = .ok (.return_, 1) := by decide +kernel
theorem dX9_bitsOf_0 : decode cX9_bitsOf 0 = .ok (.lload_n 0, 1) := by decide +kernel
theorem dX9_bitsOf_1 : decode cX9_bitsOf 1 = .ok (.lconst 0, 1) := by decide +kernel
theorem dX9_bitsOf_2 : decode cX9_bitsOf 2 = .ok (.lcmp, 1) := by decide +kernel
theorem dX9_bitsOf_3 : decode cX9_bitsOf 3 = .ok (.ifCond .ne 5, 3) := by decide +kernel
theorem dX9_bitsOf_6 : decode cX9_bitsOf 6 = .ok (.lconst 0, 1) := by decide +kernel
theorem dX9_bitsOf_7 : decode cX9_bitsOf 7 = .ok (.lreturn, 1) := by decide +kernel
theorem dX9_bitsOf_8 : decode cX9_bitsOf 8 = .ok (.iconst 0, 1) := by decide +kernel
theorem dX9_bitsOf_9 : decode cX9_bitsOf 9 = .ok (.istore 6, 2) := by decide +kernel
theorem dX9_bitsOf_11 : decode cX9_bitsOf 11 = .ok (.lload_n 0, 1) := by decide +kernel
theorem dX9_bitsOf_12 : decode cX9_bitsOf 12 = .ok (.lstore 7, 2) := by decide +kernel
theorem dX9_bitsOf_14 : decode cX9_bitsOf 14 = .ok (.lload 7, 2) := by decide +kernel
theorem dX9_bitsOf_16 : decode cX9_bitsOf 16 = .ok (.lload_n 2, 1) := by decide +kernel
theorem dX9_bitsOf_17 : decode cX9_bitsOf 17 = .ok (.lcmp, 1) := by decide +kernel
theorem dX9_bitsOf_18 : decode cX9_bitsOf 18 = .ok (.ifCond .ge 17, 3) := by decide +kernel
theorem dX9_bitsOf_21 : decode cX9_bitsOf 21 = .ok (.lload 7, 2) := by decide +kernel
theorem dX9_bitsOf_23 : decode cX9_bitsOf 23 = .ok (.ldc2_w 175, 3) := by decide +kernel
theorem dX9_bitsOf_26 : decode cX9_bitsOf 26 = .ok (.lmul, 1) := by decide +kernel
theorem dX9_bitsOf_27 : decode cX9_bitsOf 27 = .ok (.lstore 7, 2) := by decide +kernel
theorem dX9_bitsOf_29 : decode cX9_bitsOf 29 = .ok (.iinc 6 1, 3) := by decide +kernel
theorem dX9_bitsOf_32 : decode cX9_bitsOf 32 = .ok (.goto (-18), 3) := by decide +kernel
theorem dX9_bitsOf_35 : decode cX9_bitsOf 35 = .ok (.iconst 0, 1) := by decide +kernel
theorem dX9_bitsOf_36 : decode cX9_bitsOf 36 = .ok (.istore 9, 2) := by decide +kernel
theorem dX9_bitsOf_38 : decode cX9_bitsOf 38 = .ok (.iload 9, 2) := by decide +kernel
theorem dX9_bitsOf_40 : decode cX9_bitsOf 40 = .ok (.iload 4, 2) := by decide +kernel
theorem dX9_bitsOf_42 : decode cX9_bitsOf 42 = .ok (.if_icmp .ge 17, 3) := by decide +kernel
theorem dX9_bitsOf_45 : decode cX9_bitsOf 45 = .ok (.lload 7, 2) := by decide +kernel
theorem dX9_bitsOf_47 : decode cX9_bitsOf 47 = .ok (.ldc2_w 175, 3) := by decide +kernel
theorem dX9_bitsOf_50 : decode cX9_bitsOf 50 = .ok (.lmul, 1) := by decide +kernel
theorem dX9_bitsOf_51 : decode cX9_bitsOf 51 = .ok (.lstore 7, 2) := by decide +kernel
theorem dX9_bitsOf_53 : decode cX9_bitsOf 53 = .ok (.iinc 9 1, 3) := by decide +kernel
theorem dX9_bitsOf_56 : decode cX9_bitsOf 56 = .ok (.goto (-18), 3) := by decide +kernel
theorem dX9_bitsOf_59 : decode cX9_bitsOf 59 = .ok (.lload 7, 2) := by decide +kernel
theorem dX9_bitsOf_61 : decode cX9_bitsOf 61 = .ok (.lload_n 2, 1) := by decide +kernel
theorem dX9_bitsOf_62 : decode cX9_bitsOf 62 = .ok (.ldiv, 1) := by decide +kernel
theorem dX9_bitsOf_63 : decode cX9_bitsOf 63 = .ok (.lstore 9, 2) := by decide +kernel
theorem dX9_bitsOf_65 : decode cX9_bitsOf 65 = .ok (.lload 7, 2) := by decide +kernel
theorem dX9_bitsOf_67 : decode cX9_bitsOf 67 = .ok (.lload_n 2, 1) := by decide +kernel
theorem dX9_bitsOf_68 : decode cX9_bitsOf 68 = .ok (.lrem, 1) := by decide +kernel
theorem dX9_bitsOf_69 : decode cX9_bitsOf 69 = .ok (.lstore 11, 2) := by decide +kernel
theorem dX9_bitsOf_71 : decode cX9_bitsOf 71 = .ok (.lload 9, 2) := by decide +kernel
theorem dX9_bitsOf_73 : decode cX9_bitsOf 73 = .ok (.ldc2_w 175, 3) := by decide +kernel
theorem dX9_bitsOf_76 : decode cX9_bitsOf 76 = .ok (.lload 11, 2) := by decide +kernel
theorem dX9_bitsOf_78 : decode cX9_bitsOf 78 = .ok (.lmul, 1) := by decide +kernel
theorem dX9_bitsOf_79 : decode cX9_bitsOf 79 = .ok (.lload_n 2, 1) := by decide +kernel
theorem dX9_bitsOf_80 : decode cX9_bitsOf 80 = .ok (.lcmp, 1) := by decide +kernel
theorem dX9_bitsOf_81 : decode cX9_bitsOf 81 = .ok (.ifCond .gt 25, 3) := by decide +kernel
theorem dX9_bitsOf_84 : decode cX9_bitsOf 84 = .ok (.ldc2_w 175, 3) := by decide +kernel
theorem dX9_bitsOf_87 : decode cX9_bitsOf 87 = .ok (.lload 11, 2) := by decide +kernel
theorem dX9_bitsOf_89 : decode cX9_bitsOf 89 = .ok (.lmul, 1) := by decide +kernel
theorem dX9_bitsOf_90 : decode cX9_bitsOf 90 = .ok (.lload_n 2, 1) := by decide +kernel
theorem dX9_bitsOf_91 : decode cX9_bitsOf 91 = .ok (.lcmp, 1) := by decide +kernel
theorem dX9_bitsOf_92 : decode cX9_bitsOf 92 = .ok (.ifCond .ne 18, 3) := by decide +kernel
theorem dX9_bitsOf_95 : decode cX9_bitsOf 95 = .ok (.lload 9, 2) := by decide +kernel
theorem dX9_bitsOf_97 : decode cX9_bitsOf 97 = .ok (.ldc2_w 175, 3) := by decide +kernel
theorem dX9_bitsOf_100 : decode cX9_bitsOf 100 = .ok (.lrem, 1) := by decide +kernel
theorem dX9_bitsOf_101 : decode cX9_bitsOf 101 = .ok (.lconst 1, 1) := by decide +kernel
theorem dX9_bitsOf_102 : decode cX9_bitsOf 102 = .ok (.lcmp, 1) := by decide +kernel
theorem dX9_bitsOf_103 : decode cX9_bitsOf 103 = .ok (.ifCond .ne 7, 3) := by decide +kernel
theorem dX9_bitsOf_106 : decode cX9_bitsOf 106 = .ok (.lconst 1, 1) := by decide +kernel
theorem dX9_bitsOf_107 : decode cX9_bitsOf 107 = .ok (.goto 4, 3) := by decide +kernel
theorem dX9_bitsOf_110 : decode cX9_bitsOf 110 = .ok (.lconst 0, 1) := by decide +kernel
theorem dX9_bitsOf_111 : decode cX9_bitsOf 111 = .ok (.ladd, 1) := by decide +kernel
theorem dX9_bitsOf_112 : decode cX9_bitsOf 112 = .ok (.lstore 9, 2) := by decide +kernel
theorem dX9_bitsOf_114 : decode cX9_bitsOf 114 = .ok (.iload 5, 2) := by decide +kernel
theorem dX9_bitsOf_116 : decode cX9_bitsOf 116 = .ok (.iload 6, 2) := by decide +kernel
theorem dX9_bitsOf_118 : decode cX9_bitsOf 118 = .ok (.isub, 1) := by decide +kernel
theorem dX9_bitsOf_119 : decode cX9_bitsOf 119 = .ok (.i2l, 1) := by decide +kernel
theorem dX9_bitsOf_120 : decode cX9_bitsOf 120 = .ok (.iload 4, 2) := by decide +kernel
theorem dX9_bitsOf_122 : decode cX9_bitsOf 122 = .ok (.lshl, 1) := by decide +kernel
theorem dX9_bitsOf_123 : decode cX9_bitsOf 123 = .ok (.lload 9, 2) := by decide +kernel
theorem dX9_bitsOf_125 : decode cX9_bitsOf 125 = .ok (.ladd, 1) := by decide +kernel
theorem dX9_bitsOf_126 : decode cX9_bitsOf 126 = .ok (.lconst 1, 1) := by decide +kernel
theorem dX9_bitsOf_127 : decode cX9_bitsOf 127 = .ok (.iload 4, 2) := by decide +kernel
theorem dX9_bitsOf_129 : decode cX9_bitsOf 129 = .ok (.lshl, 1) := by decide +kernel
theorem dX9_bitsOf_130 : decode cX9_bitsOf 130 = .ok (.lsub, 1) := by decide +kernel
theorem dX9_bitsOf_131 : decode cX9_bitsOf 131 = .ok (.lreturn, 1) := by decide +kernel
theorem dX9_lettersOf_0 : decode cX9_lettersOf 0 = .ok (.iload_n 0, 1) := by decide +kernel
theorem dX9_lettersOf_1 : decode cX9_lettersOf 1 = .ok (.sipush 128, 3) := by decide +kernel
theorem dX9_lettersOf_4 : decode cX9_lettersOf 4 = .ok (.if_icmp .ge 7, 3) := by decide +kernel
theorem dX9_lettersOf_7 : decode cX9_lettersOf 7 = .ok (.iconst 1, 1) := by decide +kernel
theorem dX9_lettersOf_8 : decode cX9_lettersOf 8 = .ok (.goto 15, 3) := by decide +kernel
theorem dX9_lettersOf_11 : decode cX9_lettersOf 11 = .ok (.iload_n 0, 1) := by decide +kernel
theorem dX9_lettersOf_12 : decode cX9_lettersOf 12 = .ok (.sipush 16384, 3) := by decide +kernel
theorem dX9_lettersOf_15 : decode cX9_lettersOf 15 = .ok (.if_icmp .ge 7, 3) := by decide +kernel
theorem dX9_lettersOf_18 : decode cX9_lettersOf 18 = .ok (.iconst 2, 1) := by decide +kernel
theorem dX9_lettersOf_19 : decode cX9_lettersOf 19 = .ok (.goto 4, 3) := by decide +kernel
theorem dX9_lettersOf_22 : decode cX9_lettersOf 22 = .ok (.iconst 3, 1) := by decide +kernel
theorem dX9_lettersOf_23 : decode cX9_lettersOf 23 = .ok (.ireturn, 1) := by decide +kernel
theorem dX9_letterOf_0 : decode cX9_letterOf 0 = .ok (.iload_n 0, 1) := by decide +kernel
theorem dX9_letterOf_1 : decode cX9_letterOf 1 = .ok (.istore_n 2, 1) := by decide +kernel
theorem dX9_letterOf_2 : decode cX9_letterOf 2 = .ok (.iload_n 0, 1) := by decide +kernel
theorem dX9_letterOf_3 : decode cX9_letterOf 3 = .ok (.invokestatic 177, 3) := by decide +kernel
theorem dX9_letterOf_6 : decode cX9_letterOf 6 = .ok (.iconst 1, 1) := by decide +kernel
theorem dX9_letterOf_7 : decode cX9_letterOf 7 = .ok (.isub, 1) := by decide +kernel
theorem dX9_letterOf_8 : decode cX9_letterOf 8 = .ok (.istore_n 3, 1) := by decide +kernel
theorem dX9_letterOf_9 : decode cX9_letterOf 9 = .ok (.iload_n 3, 1) := by decide +kernel
theorem dX9_letterOf_10 : decode cX9_letterOf 10 = .ok (.iload_n 1, 1) := by decide +kernel
theorem dX9_letterOf_11 : decode cX9_letterOf 11 = .ok (.if_icmp .le 15, 3) := by decide +kernel
theorem dX9_letterOf_14 : decode cX9_letterOf 14 = .ok (.iload_n 2, 1) := by decide +kernel
theorem dX9_letterOf_15 : decode cX9_letterOf 15 = .ok (.sipush 128, 3) := by decide +kernel
theorem dX9_letterOf_18 : decode cX9_letterOf 18 = .ok (.idiv, 1) := by decide +kernel
theorem dX9_letterOf_19 : decode cX9_letterOf 19 = .ok (.istore_n 2, 1) := by decide +kernel
theorem dX9_letterOf_20 : decode cX9_letterOf 20 = .ok (.iinc 3 (-1), 3) := by decide +kernel
theorem dX9_letterOf_23 : decode cX9_letterOf 23 = .ok (.goto (-14), 3) := by decide +kernel
theorem dX9_letterOf_26 : decode cX9_letterOf 26 = .ok (.iload_n 2, 1) := by decide +kernel
theorem dX9_letterOf_27 : decode cX9_letterOf 27 = .ok (.sipush 128, 3) := by decide +kernel
theorem dX9_letterOf_30 : decode cX9_letterOf 30 = .ok (.irem, 1) := by decide +kernel
theorem dX9_letterOf_31 : decode cX9_letterOf 31 = .ok (.ireturn, 1) := by decide +kernel
theorem dX9_alike_0 : decode cX9_alike 0 = .ok (.iload_n 1, 1) := by decide +kernel
theorem dX9_alike_1 : decode cX9_alike 1 = .ok (.invokestatic 177, 3) := by decide +kernel
theorem dX9_alike_4 : decode cX9_alike 4 = .ok (.istore_n 3, 1) := by decide +kernel
theorem dX9_alike_5 : decode cX9_alike 5 = .ok (.iload_n 2, 1) := by decide +kernel
theorem dX9_alike_6 : decode cX9_alike 6 = .ok (.invokestatic 177, 3) := by decide +kernel
theorem dX9_alike_9 : decode cX9_alike 9 = .ok (.istore 4, 2) := by decide +kernel
theorem dX9_alike_11 : decode cX9_alike 11 = .ok (.iconst 3, 1) := by decide +kernel
theorem dX9_alike_12 : decode cX9_alike 12 = .ok (.istore 5, 2) := by decide +kernel
theorem dX9_alike_14 : decode cX9_alike 14 = .ok (.iload 5, 2) := by decide +kernel
theorem dX9_alike_16 : decode cX9_alike 16 = .ok (.ifCond .lt 137, 3) := by decide +kernel
theorem dX9_alike_19 : decode cX9_alike 19 = .ok (.iconst 3, 1) := by decide +kernel
theorem dX9_alike_20 : decode cX9_alike 20 = .ok (.istore 6, 2) := by decide +kernel
theorem dX9_alike_22 : decode cX9_alike 22 = .ok (.iload 6, 2) := by decide +kernel
theorem dX9_alike_24 : decode cX9_alike 24 = .ok (.ifCond .lt 123, 3) := by decide +kernel
theorem dX9_alike_27 : decode cX9_alike 27 = .ok (.iconst 0, 1) := by decide +kernel
theorem dX9_alike_28 : decode cX9_alike 28 = .ok (.istore 7, 2) := by decide +kernel
theorem dX9_alike_30 : decode cX9_alike 30 = .ok (.iload 5, 2) := by decide +kernel
theorem dX9_alike_32 : decode cX9_alike 32 = .ok (.iload_n 3, 1) := by decide +kernel
theorem dX9_alike_33 : decode cX9_alike 33 = .ok (.if_icmp .ge 94, 3) := by decide +kernel
theorem dX9_alike_36 : decode cX9_alike 36 = .ok (.iload 6, 2) := by decide +kernel
theorem dX9_alike_38 : decode cX9_alike 38 = .ok (.iload 4, 2) := by decide +kernel
theorem dX9_alike_40 : decode cX9_alike 40 = .ok (.if_icmp .ge 87, 3) := by decide +kernel
theorem dX9_alike_43 : decode cX9_alike 43 = .ok (.aload_n 0, 1) := by decide +kernel
theorem dX9_alike_44 : decode cX9_alike 44 = .ok (.getfield 43, 3) := by decide +kernel
theorem dX9_alike_47 : decode cX9_alike 47 = .ok (.iconst 4, 1) := by decide +kernel
theorem dX9_alike_48 : decode cX9_alike 48 = .ok (.iload 5, 2) := by decide +kernel
theorem dX9_alike_50 : decode cX9_alike 50 = .ok (.iconst 1, 1) := by decide +kernel
theorem dX9_alike_51 : decode cX9_alike 51 = .ok (.iadd, 1) := by decide +kernel
theorem dX9_alike_52 : decode cX9_alike 52 = .ok (.imul, 1) := by decide +kernel
theorem dX9_alike_53 : decode cX9_alike 53 = .ok (.iload 6, 2) := by decide +kernel
theorem dX9_alike_55 : decode cX9_alike 55 = .ok (.iadd, 1) := by decide +kernel
theorem dX9_alike_56 : decode cX9_alike 56 = .ok (.iaload, 1) := by decide +kernel
theorem dX9_alike_57 : decode cX9_alike 57 = .ok (.istore 8, 2) := by decide +kernel
theorem dX9_alike_59 : decode cX9_alike 59 = .ok (.aload_n 0, 1) := by decide +kernel
theorem dX9_alike_60 : decode cX9_alike 60 = .ok (.getfield 43, 3) := by decide +kernel
theorem dX9_alike_63 : decode cX9_alike 63 = .ok (.iconst 4, 1) := by decide +kernel
theorem dX9_alike_64 : decode cX9_alike 64 = .ok (.iload 5, 2) := by decide +kernel
theorem dX9_alike_66 : decode cX9_alike 66 = .ok (.imul, 1) := by decide +kernel
theorem dX9_alike_67 : decode cX9_alike 67 = .ok (.iload 6, 2) := by decide +kernel
theorem dX9_alike_69 : decode cX9_alike 69 = .ok (.iadd, 1) := by decide +kernel
theorem dX9_alike_70 : decode cX9_alike 70 = .ok (.iconst 1, 1) := by decide +kernel
theorem dX9_alike_71 : decode cX9_alike 71 = .ok (.iadd, 1) := by decide +kernel
theorem dX9_alike_72 : decode cX9_alike 72 = .ok (.iaload, 1) := by decide +kernel
theorem dX9_alike_73 : decode cX9_alike 73 = .ok (.istore 9, 2) := by decide +kernel
theorem dX9_alike_75 : decode cX9_alike 75 = .ok (.iload_n 1, 1) := by decide +kernel
theorem dX9_alike_76 : decode cX9_alike 76 = .ok (.iload 5, 2) := by decide +kernel
theorem dX9_alike_78 : decode cX9_alike 78 = .ok (.invokestatic 181, 3) := by decide +kernel
theorem dX9_alike_81 : decode cX9_alike 81 = .ok (.iload_n 2, 1) := by decide +kernel
theorem dX9_alike_82 : decode cX9_alike 82 = .ok (.iload 6, 2) := by decide +kernel
theorem dX9_alike_84 : decode cX9_alike 84 = .ok (.invokestatic 181, 3) := by decide +kernel
theorem dX9_alike_87 : decode cX9_alike 87 = .ok (.if_icmp .ne 24, 3) := by decide +kernel
theorem dX9_alike_90 : decode cX9_alike 90 = .ok (.iconst 1, 1) := by decide +kernel
theorem dX9_alike_91 : decode cX9_alike 91 = .ok (.aload_n 0, 1) := by decide +kernel
theorem dX9_alike_92 : decode cX9_alike 92 = .ok (.getfield 43, 3) := by decide +kernel
theorem dX9_alike_95 : decode cX9_alike 95 = .ok (.iconst 4, 1) := by decide +kernel
theorem dX9_alike_96 : decode cX9_alike 96 = .ok (.iload 5, 2) := by decide +kernel
theorem dX9_alike_98 : decode cX9_alike 98 = .ok (.iconst 1, 1) := by decide +kernel
theorem dX9_alike_99 : decode cX9_alike 99 = .ok (.iadd, 1) := by decide +kernel
theorem dX9_alike_100 : decode cX9_alike 100 = .ok (.imul, 1) := by decide +kernel
theorem dX9_alike_101 : decode cX9_alike 101 = .ok (.iload 6, 2) := by decide +kernel
theorem dX9_alike_103 : decode cX9_alike 103 = .ok (.iadd, 1) := by decide +kernel
theorem dX9_alike_104 : decode cX9_alike 104 = .ok (.iconst 1, 1) := by decide +kernel
theorem dX9_alike_105 : decode cX9_alike 105 = .ok (.iadd, 1) := by decide +kernel
theorem dX9_alike_106 : decode cX9_alike 106 = .ok (.iaload, 1) := by decide +kernel
theorem dX9_alike_107 : decode cX9_alike 107 = .ok (.iadd, 1) := by decide +kernel
theorem dX9_alike_108 : decode cX9_alike 108 = .ok (.goto 17, 3) := by decide +kernel
theorem dX9_alike_111 : decode cX9_alike 111 = .ok (.iload 8, 2) := by decide +kernel
theorem dX9_alike_113 : decode cX9_alike 113 = .ok (.iload 9, 2) := by decide +kernel
theorem dX9_alike_115 : decode cX9_alike 115 = .ok (.if_icmp .le 8, 3) := by decide +kernel
theorem dX9_alike_118 : decode cX9_alike 118 = .ok (.iload 8, 2) := by decide +kernel
theorem dX9_alike_120 : decode cX9_alike 120 = .ok (.goto 5, 3) := by decide +kernel
theorem dX9_alike_123 : decode cX9_alike 123 = .ok (.iload 9, 2) := by decide +kernel
theorem dX9_alike_125 : decode cX9_alike 125 = .ok (.istore 7, 2) := by decide +kernel
theorem dX9_alike_127 : decode cX9_alike 127 = .ok (.aload_n 0, 1) := by decide +kernel
theorem dX9_alike_128 : decode cX9_alike 128 = .ok (.getfield 43, 3) := by decide +kernel
theorem dX9_alike_131 : decode cX9_alike 131 = .ok (.iconst 4, 1) := by decide +kernel
theorem dX9_alike_132 : decode cX9_alike 132 = .ok (.iload 5, 2) := by decide +kernel
theorem dX9_alike_134 : decode cX9_alike 134 = .ok (.imul, 1) := by decide +kernel
theorem dX9_alike_135 : decode cX9_alike 135 = .ok (.iload 6, 2) := by decide +kernel
theorem dX9_alike_137 : decode cX9_alike 137 = .ok (.iadd, 1) := by decide +kernel
theorem dX9_alike_138 : decode cX9_alike 138 = .ok (.iload 7, 2) := by decide +kernel
theorem dX9_alike_140 : decode cX9_alike 140 = .ok (.iastore, 1) := by decide +kernel
theorem dX9_alike_141 : decode cX9_alike 141 = .ok (.iinc 6 (-1), 3) := by decide +kernel
theorem dX9_alike_144 : decode cX9_alike 144 = .ok (.goto (-122), 3) := by decide +kernel
theorem dX9_alike_147 : decode cX9_alike 147 = .ok (.iinc 5 (-1), 3) := by decide +kernel
theorem dX9_alike_150 : decode cX9_alike 150 = .ok (.goto (-136), 3) := by decide +kernel
theorem dX9_alike_153 : decode cX9_alike 153 = .ok (.aload_n 0, 1) := by decide +kernel
theorem dX9_alike_154 : decode cX9_alike 154 = .ok (.getfield 43, 3) := by decide +kernel
theorem dX9_alike_157 : decode cX9_alike 157 = .ok (.iconst 0, 1) := by decide +kernel
theorem dX9_alike_158 : decode cX9_alike 158 = .ok (.iaload, 1) := by decide +kernel
theorem dX9_alike_159 : decode cX9_alike 159 = .ok (.ireturn, 1) := by decide +kernel
theorem dX9_likeBits_0 : decode cX9_likeBits 0 = .ok (.ldc2_w 175, 3) := by decide +kernel
theorem dX9_likeBits_3 : decode cX9_likeBits 3 = .ok (.aload_n 0, 1) := by decide +kernel
theorem dX9_likeBits_4 : decode cX9_likeBits 4 = .ok (.iload_n 1, 1) := by decide +kernel
theorem dX9_likeBits_5 : decode cX9_likeBits 5 = .ok (.iload_n 2, 1) := by decide +kernel
theorem dX9_likeBits_6 : decode cX9_likeBits 6 = .ok (.invokevirtual 184, 3) := by decide +kernel
theorem dX9_likeBits_9 : decode cX9_likeBits 9 = .ok (.i2l, 1) := by decide +kernel
theorem dX9_likeBits_10 : decode cX9_likeBits 10 = .ok (.lmul, 1) := by decide +kernel
theorem dX9_likeBits_11 : decode cX9_likeBits 11 = .ok (.iload_n 1, 1) := by decide +kernel
theorem dX9_likeBits_12 : decode cX9_likeBits 12 = .ok (.invokestatic 177, 3) := by decide +kernel
theorem dX9_likeBits_15 : decode cX9_likeBits 15 = .ok (.iload_n 2, 1) := by decide +kernel
theorem dX9_likeBits_16 : decode cX9_likeBits 16 = .ok (.invokestatic 177, 3) := by decide +kernel
theorem dX9_likeBits_19 : decode cX9_likeBits 19 = .ok (.iadd, 1) := by decide +kernel
theorem dX9_likeBits_20 : decode cX9_likeBits 20 = .ok (.i2l, 1) := by decide +kernel
theorem dX9_likeBits_21 : decode cX9_likeBits 21 = .ok (.bipush 23, 2) := by decide +kernel
theorem dX9_likeBits_23 : decode cX9_likeBits 23 = .ok (.bipush 127, 2) := by decide +kernel
theorem dX9_likeBits_25 : decode cX9_likeBits 25 = .ok (.invokestatic 187, 3) := by decide +kernel
theorem dX9_likeBits_28 : decode cX9_likeBits 28 = .ok (.l2i, 1) := by decide +kernel
theorem dX9_likeBits_29 : decode cX9_likeBits 29 = .ok (.ireturn, 1) := by decide +kernel
theorem dX9_like_0 : decode cX9_like 0 = .ok (.aload_n 0, 1) := by decide +kernel
theorem dX9_like_1 : decode cX9_like 1 = .ok (.iconst 0, 1) := by decide +kernel
theorem dX9_like_2 : decode cX9_like 2 = .ok (.iload_n 1, 1) := by decide +kernel
theorem dX9_like_3 : decode cX9_like 3 = .ok (.invokevirtual 191, 3) := by decide +kernel
theorem dX9_like_6 : decode cX9_like 6 = .ok (.ifCond .eq 34, 3) := by decide +kernel
theorem dX9_like_9 : decode cX9_like 9 = .ok (.aload_n 0, 1) := by decide +kernel
theorem dX9_like_10 : decode cX9_like 10 = .ok (.iconst 1, 1) := by decide +kernel
theorem dX9_like_11 : decode cX9_like 11 = .ok (.iload_n 2, 1) := by decide +kernel
theorem dX9_like_12 : decode cX9_like 12 = .ok (.invokevirtual 191, 3) := by decide +kernel
theorem dX9_like_15 : decode cX9_like 15 = .ok (.ifCond .eq 25, 3) := by decide +kernel
theorem dX9_like_18 : decode cX9_like 18 = .ok (.aload_n 0, 1) := by decide +kernel
theorem dX9_like_19 : decode cX9_like 19 = .ok (.aload_n 0, 1) := by decide +kernel
theorem dX9_like_20 : decode cX9_like 20 = .ok (.getfield 19, 3) := by decide +kernel
theorem dX9_like_23 : decode cX9_like 23 = .ok (.iload_n 1, 1) := by decide +kernel
theorem dX9_like_24 : decode cX9_like 24 = .ok (.iaload, 1) := by decide +kernel
theorem dX9_like_25 : decode cX9_like 25 = .ok (.aload_n 0, 1) := by decide +kernel
theorem dX9_like_26 : decode cX9_like 26 = .ok (.getfield 19, 3) := by decide +kernel
theorem dX9_like_29 : decode cX9_like 29 = .ok (.bipush 16, 2) := by decide +kernel
theorem dX9_like_31 : decode cX9_like 31 = .ok (.iload_n 2, 1) := by decide +kernel
theorem dX9_like_32 : decode cX9_like 32 = .ok (.iadd, 1) := by decide +kernel
theorem dX9_like_33 : decode cX9_like 33 = .ok (.iaload, 1) := by decide +kernel
theorem dX9_like_34 : decode cX9_like 34 = .ok (.invokevirtual 194, 3) := by decide +kernel
theorem dX9_like_37 : decode cX9_like 37 = .ok (.goto 5, 3) := by decide +kernel
theorem dX9_like_40 : decode cX9_like 40 = .ok (.bipush (-101), 2) := by decide +kernel
theorem dX9_like_42 : decode cX9_like 42 = .ok (.ireturn, 1) := by decide +kernel
theorem dX9_addStep_0 : decode cX9_addStep 0 = .ok (.aload_n 0, 1) := by decide +kernel
theorem dX9_addStep_1 : decode cX9_addStep 1 = .ok (.getfield 46, 3) := by decide +kernel
theorem dX9_addStep_4 : decode cX9_addStep 4 = .ok (.iconst 5, 1) := by decide +kernel
theorem dX9_addStep_5 : decode cX9_addStep 5 = .ok (.aload_n 0, 1) := by decide +kernel
theorem dX9_addStep_6 : decode cX9_addStep 6 = .ok (.getfield 197, 3) := by decide +kernel
theorem dX9_addStep_9 : decode cX9_addStep 9 = .ok (.imul, 1) := by decide +kernel
theorem dX9_addStep_10 : decode cX9_addStep 10 = .ok (.iload_n 1, 1) := by decide +kernel
theorem dX9_addStep_11 : decode cX9_addStep 11 = .ok (.iastore, 1) := by decide +kernel
theorem dX9_addStep_12 : decode cX9_addStep 12 = .ok (.aload_n 0, 1) := by decide +kernel
theorem dX9_addStep_13 : decode cX9_addStep 13 = .ok (.getfield 46, 3) := by decide +kernel
theorem dX9_addStep_16 : decode cX9_addStep 16 = .ok (.iconst 5, 1) := by decide +kernel
theorem dX9_addStep_17 : decode cX9_addStep 17 = .ok (.aload_n 0, 1) := by decide +kernel
theorem dX9_addStep_18 : decode cX9_addStep 18 = .ok (.getfield 197, 3) := by decide +kernel
theorem dX9_addStep_21 : decode cX9_addStep 21 = .ok (.imul, 1) := by decide +kernel
theorem dX9_addStep_22 : decode cX9_addStep 22 = .ok (.iconst 1, 1) := by decide +kernel
theorem dX9_addStep_23 : decode cX9_addStep 23 = .ok (.iadd, 1) := by decide +kernel
theorem dX9_addStep_24 : decode cX9_addStep 24 = .ok (.iload_n 2, 1) := by decide +kernel
theorem dX9_addStep_25 : decode cX9_addStep 25 = .ok (.iastore, 1) := by decide +kernel
theorem dX9_addStep_26 : decode cX9_addStep 26 = .ok (.aload_n 0, 1) := by decide +kernel
theorem dX9_addStep_27 : decode cX9_addStep 27 = .ok (.getfield 46, 3) := by decide +kernel
theorem dX9_addStep_30 : decode cX9_addStep 30 = .ok (.iconst 5, 1) := by decide +kernel
theorem dX9_addStep_31 : decode cX9_addStep 31 = .ok (.aload_n 0, 1) := by decide +kernel
theorem dX9_addStep_32 : decode cX9_addStep 32 = .ok (.getfield 197, 3) := by decide +kernel
theorem dX9_addStep_35 : decode cX9_addStep 35 = .ok (.imul, 1) := by decide +kernel
theorem dX9_addStep_36 : decode cX9_addStep 36 = .ok (.iconst 2, 1) := by decide +kernel
theorem dX9_addStep_37 : decode cX9_addStep 37 = .ok (.iadd, 1) := by decide +kernel
theorem dX9_addStep_38 : decode cX9_addStep 38 = .ok (.iload_n 3, 1) := by decide +kernel
theorem dX9_addStep_39 : decode cX9_addStep 39 = .ok (.iastore, 1) := by decide +kernel
theorem dX9_addStep_40 : decode cX9_addStep 40 = .ok (.aload_n 0, 1) := by decide +kernel
theorem dX9_addStep_41 : decode cX9_addStep 41 = .ok (.getfield 46, 3) := by decide +kernel
theorem dX9_addStep_44 : decode cX9_addStep 44 = .ok (.iconst 5, 1) := by decide +kernel
theorem dX9_addStep_45 : decode cX9_addStep 45 = .ok (.aload_n 0, 1) := by decide +kernel
theorem dX9_addStep_46 : decode cX9_addStep 46 = .ok (.getfield 197, 3) := by decide +kernel
theorem dX9_addStep_49 : decode cX9_addStep 49 = .ok (.imul, 1) := by decide +kernel
theorem dX9_addStep_50 : decode cX9_addStep 50 = .ok (.iconst 3, 1) := by decide +kernel
theorem dX9_addStep_51 : decode cX9_addStep 51 = .ok (.iadd, 1) := by decide +kernel
theorem dX9_addStep_52 : decode cX9_addStep 52 = .ok (.iload 4, 2) := by decide +kernel
theorem dX9_addStep_54 : decode cX9_addStep 54 = .ok (.iastore, 1) := by decide +kernel
theorem dX9_addStep_55 : decode cX9_addStep 55 = .ok (.aload_n 0, 1) := by decide +kernel
theorem dX9_addStep_56 : decode cX9_addStep 56 = .ok (.getfield 46, 3) := by decide +kernel
theorem dX9_addStep_59 : decode cX9_addStep 59 = .ok (.iconst 5, 1) := by decide +kernel
theorem dX9_addStep_60 : decode cX9_addStep 60 = .ok (.aload_n 0, 1) := by decide +kernel
theorem dX9_addStep_61 : decode cX9_addStep 61 = .ok (.getfield 197, 3) := by decide +kernel
theorem dX9_addStep_64 : decode cX9_addStep 64 = .ok (.imul, 1) := by decide +kernel
theorem dX9_addStep_65 : decode cX9_addStep 65 = .ok (.iconst 4, 1) := by decide +kernel
theorem dX9_addStep_66 : decode cX9_addStep 66 = .ok (.iadd, 1) := by decide +kernel
theorem dX9_addStep_67 : decode cX9_addStep 67 = .ok (.iload 5, 2) := by decide +kernel
theorem dX9_addStep_69 : decode cX9_addStep 69 = .ok (.iastore, 1) := by decide +kernel
theorem dX9_addStep_70 : decode cX9_addStep 70 = .ok (.aload_n 0, 1) := by decide +kernel
theorem dX9_addStep_71 : decode cX9_addStep 71 = .ok (.dup, 1) := by decide +kernel
theorem dX9_addStep_72 : decode cX9_addStep 72 = .ok (.getfield 197, 3) := by decide +kernel
theorem dX9_addStep_75 : decode cX9_addStep 75 = .ok (.iconst 1, 1) := by decide +kernel
theorem dX9_addStep_76 : decode cX9_addStep 76 = .ok (.iadd, 1) := by decide +kernel
theorem dX9_addStep_77 : decode cX9_addStep 77 = .ok (.putfield 197, 3) := by decide +kernel
theorem dX9_addStep_80 : decode cX9_addStep 80 = .ok (.return_, 1) := by decide +kernel
theorem dX9_changeBy_0 : decode cX9_changeBy 0 = .ok (.iconst 2, 1) := by decide +kernel
theorem dX9_changeBy_1 : decode cX9_changeBy 1 = .ok (.aload_n 0, 1) := by decide +kernel
theorem dX9_changeBy_2 : decode cX9_changeBy 2 = .ok (.iload_n 1, 1) := by decide +kernel
theorem dX9_changeBy_3 : decode cX9_changeBy 3 = .ok (.iload_n 2, 1) := by decide +kernel
theorem dX9_changeBy_4 : decode cX9_changeBy 4 = .ok (.invokevirtual 184, 3) := by decide +kernel
theorem dX9_changeBy_7 : decode cX9_changeBy 7 = .ok (.imul, 1) := by decide +kernel
theorem dX9_changeBy_8 : decode cX9_changeBy 8 = .ok (.istore_n 3, 1) := by decide +kernel
theorem dX9_changeBy_9 : decode cX9_changeBy 9 = .ok (.iload_n 1, 1) := by decide +kernel
theorem dX9_changeBy_10 : decode cX9_changeBy 10 = .ok (.invokestatic 177, 3) := by decide +kernel
theorem dX9_changeBy_13 : decode cX9_changeBy 13 = .ok (.iload_n 2, 1) := by decide +kernel
theorem dX9_changeBy_14 : decode cX9_changeBy 14 = .ok (.invokestatic 177, 3) := by decide +kernel
theorem dX9_changeBy_17 : decode cX9_changeBy 17 = .ok (.iadd, 1) := by decide +kernel
theorem dX9_changeBy_18 : decode cX9_changeBy 18 = .ok (.istore 4, 2) := by decide +kernel
theorem dX9_changeBy_20 : decode cX9_changeBy 20 = .ok (.iconst 4, 1) := by decide +kernel
theorem dX9_changeBy_21 : decode cX9_changeBy 21 = .ok (.iload_n 3, 1) := by decide +kernel
theorem dX9_changeBy_22 : decode cX9_changeBy 22 = .ok (.imul, 1) := by decide +kernel
theorem dX9_changeBy_23 : decode cX9_changeBy 23 = .ok (.iconst 3, 1) := by decide +kernel
theorem dX9_changeBy_24 : decode cX9_changeBy 24 = .ok (.iload 4, 2) := by decide +kernel
theorem dX9_changeBy_26 : decode cX9_changeBy 26 = .ok (.imul, 1) := by decide +kernel
theorem dX9_changeBy_27 : decode cX9_changeBy 27 = .ok (.if_icmp .lt 7, 3) := by decide +kernel
theorem dX9_changeBy_30 : decode cX9_changeBy 30 = .ok (.iconst 4, 1) := by decide +kernel
theorem dX9_changeBy_31 : decode cX9_changeBy 31 = .ok (.goto 16, 3) := by decide +kernel
theorem dX9_changeBy_34 : decode cX9_changeBy 34 = .ok (.iconst 2, 1) := by decide +kernel
theorem dX9_changeBy_35 : decode cX9_changeBy 35 = .ok (.iload_n 3, 1) := by decide +kernel
theorem dX9_changeBy_36 : decode cX9_changeBy 36 = .ok (.imul, 1) := by decide +kernel
theorem dX9_changeBy_37 : decode cX9_changeBy 37 = .ok (.iload 4, 2) := by decide +kernel
theorem dX9_changeBy_39 : decode cX9_changeBy 39 = .ok (.if_icmp .lt 7, 3) := by decide +kernel
theorem dX9_changeBy_42 : decode cX9_changeBy 42 = .ok (.iconst 3, 1) := by decide +kernel
theorem dX9_changeBy_43 : decode cX9_changeBy 43 = .ok (.goto 4, 3) := by decide +kernel
theorem dX9_changeBy_46 : decode cX9_changeBy 46 = .ok (.iconst 0, 1) := by decide +kernel
theorem dX9_changeBy_47 : decode cX9_changeBy 47 = .ok (.ireturn, 1) := by decide +kernel
theorem dX9_layGap_0 : decode cX9_layGap 0 = .ok (.iload_n 3, 1) := by decide +kernel
theorem dX9_layGap_1 : decode cX9_layGap 1 = .ok (.iload 4, 2) := by decide +kernel
theorem dX9_layGap_3 : decode cX9_layGap 3 = .ok (.if_icmp .ge 7, 3) := by decide +kernel
theorem dX9_layGap_6 : decode cX9_layGap 6 = .ok (.iload_n 3, 1) := by decide +kernel
theorem dX9_layGap_7 : decode cX9_layGap 7 = .ok (.goto 5, 3) := by decide +kernel
theorem dX9_layGap_10 : decode cX9_layGap 10 = .ok (.iload 4, 2) := by decide +kernel
theorem dX9_layGap_12 : decode cX9_layGap 12 = .ok (.istore 5, 2) := by decide +kernel
theorem dX9_layGap_14 : decode cX9_layGap 14 = .ok (.iconst 0, 1) := by decide +kernel
theorem dX9_layGap_15 : decode cX9_layGap 15 = .ok (.istore 6, 2) := by decide +kernel
theorem dX9_layGap_17 : decode cX9_layGap 17 = .ok (.iload 6, 2) := by decide +kernel
theorem dX9_layGap_19 : decode cX9_layGap 19 = .ok (.iload_n 3, 1) := by decide +kernel
theorem dX9_layGap_20 : decode cX9_layGap 20 = .ok (.if_icmp .ge 103, 3) := by decide +kernel
theorem dX9_layGap_23 : decode cX9_layGap 23 = .ok (.iload 6, 2) := by decide +kernel
theorem dX9_layGap_25 : decode cX9_layGap 25 = .ok (.iload 5, 2) := by decide +kernel
theorem dX9_layGap_27 : decode cX9_layGap 27 = .ok (.if_icmp .ge 35, 3) := by decide +kernel
theorem dX9_layGap_30 : decode cX9_layGap 30 = .ok (.aload_n 0, 1) := by decide +kernel
theorem dX9_layGap_31 : decode cX9_layGap 31 = .ok (.aload_n 0, 1) := by decide +kernel
theorem dX9_layGap_32 : decode cX9_layGap 32 = .ok (.getfield 19, 3) := by decide +kernel
theorem dX9_layGap_35 : decode cX9_layGap 35 = .ok (.iload_n 1, 1) := by decide +kernel
theorem dX9_layGap_36 : decode cX9_layGap 36 = .ok (.iload 6, 2) := by decide +kernel
theorem dX9_layGap_38 : decode cX9_layGap 38 = .ok (.iadd, 1) := by decide +kernel
theorem dX9_layGap_39 : decode cX9_layGap 39 = .ok (.iaload, 1) := by decide +kernel
theorem dX9_layGap_40 : decode cX9_layGap 40 = .ok (.aload_n 0, 1) := by decide +kernel
theorem dX9_layGap_41 : decode cX9_layGap 41 = .ok (.getfield 19, 3) := by decide +kernel
theorem dX9_layGap_44 : decode cX9_layGap 44 = .ok (.bipush 16, 2) := by decide +kernel
theorem dX9_layGap_46 : decode cX9_layGap 46 = .ok (.iload_n 2, 1) := by decide +kernel
theorem dX9_layGap_47 : decode cX9_layGap 47 = .ok (.iadd, 1) := by decide +kernel
theorem dX9_layGap_48 : decode cX9_layGap 48 = .ok (.iload 6, 2) := by decide +kernel
theorem dX9_layGap_50 : decode cX9_layGap 50 = .ok (.iadd, 1) := by decide +kernel
theorem dX9_layGap_51 : decode cX9_layGap 51 = .ok (.iaload, 1) := by decide +kernel
theorem dX9_layGap_52 : decode cX9_layGap 52 = .ok (.invokevirtual 200, 3) := by decide +kernel
theorem dX9_layGap_55 : decode cX9_layGap 55 = .ok (.ifCond .le 7, 3) := by decide +kernel
theorem dX9_layGap_58 : decode cX9_layGap 58 = .ok (.iconst 1, 1) := by decide +kernel
theorem dX9_layGap_59 : decode cX9_layGap 59 = .ok (.goto 4, 3) := by decide +kernel
theorem dX9_layGap_62 : decode cX9_layGap 62 = .ok (.iconst 0, 1) := by decide +kernel
theorem dX9_layGap_63 : decode cX9_layGap 63 = .ok (.istore 7, 2) := by decide +kernel
theorem dX9_layGap_65 : decode cX9_layGap 65 = .ok (.iload 7, 2) := by decide +kernel
theorem dX9_layGap_67 : decode cX9_layGap 67 = .ok (.ifCond .eq 35, 3) := by decide +kernel
theorem dX9_layGap_70 : decode cX9_layGap 70 = .ok (.aload_n 0, 1) := by decide +kernel
theorem dX9_layGap_71 : decode cX9_layGap 71 = .ok (.getfield 49, 3) := by decide +kernel
theorem dX9_layGap_74 : decode cX9_layGap 74 = .ok (.iload_n 1, 1) := by decide +kernel
theorem dX9_layGap_75 : decode cX9_layGap 75 = .ok (.iload 6, 2) := by decide +kernel
theorem dX9_layGap_77 : decode cX9_layGap 77 = .ok (.iadd, 1) := by decide +kernel
theorem dX9_layGap_78 : decode cX9_layGap 78 = .ok (.iload_n 2, 1) := by decide +kernel
theorem dX9_layGap_79 : decode cX9_layGap 79 = .ok (.iload 6, 2) := by decide +kernel
theorem dX9_layGap_81 : decode cX9_layGap 81 = .ok (.iadd, 1) := by decide +kernel
theorem dX9_layGap_82 : decode cX9_layGap 82 = .ok (.iastore, 1) := by decide +kernel
theorem dX9_layGap_83 : decode cX9_layGap 83 = .ok (.aload_n 0, 1) := by decide +kernel
theorem dX9_layGap_84 : decode cX9_layGap 84 = .ok (.getfield 49, 3) := by decide +kernel
theorem dX9_layGap_87 : decode cX9_layGap 87 = .ok (.bipush 16, 2) := by decide +kernel
theorem dX9_layGap_89 : decode cX9_layGap 89 = .ok (.iload_n 2, 1) := by decide +kernel
theorem dX9_layGap_90 : decode cX9_layGap 90 = .ok (.iadd, 1) := by decide +kernel
theorem dX9_layGap_91 : decode cX9_layGap 91 = .ok (.iload 6, 2) := by decide +kernel
theorem dX9_layGap_93 : decode cX9_layGap 93 = .ok (.iadd, 1) := by decide +kernel
theorem dX9_layGap_94 : decode cX9_layGap 94 = .ok (.iload_n 1, 1) := by decide +kernel
theorem dX9_layGap_95 : decode cX9_layGap 95 = .ok (.iload 6, 2) := by decide +kernel
theorem dX9_layGap_97 : decode cX9_layGap 97 = .ok (.iadd, 1) := by decide +kernel
theorem dX9_layGap_98 : decode cX9_layGap 98 = .ok (.iastore, 1) := by decide +kernel
theorem dX9_layGap_99 : decode cX9_layGap 99 = .ok (.goto 18, 3) := by decide +kernel
theorem dX9_layGap_102 : decode cX9_layGap 102 = .ok (.aload_n 0, 1) := by decide +kernel
theorem dX9_layGap_103 : decode cX9_layGap 103 = .ok (.iconst 1, 1) := by decide +kernel
theorem dX9_layGap_104 : decode cX9_layGap 104 = .ok (.iload_n 1, 1) := by decide +kernel
theorem dX9_layGap_105 : decode cX9_layGap 105 = .ok (.iload 6, 2) := by decide +kernel
theorem dX9_layGap_107 : decode cX9_layGap 107 = .ok (.iadd, 1) := by decide +kernel
theorem dX9_layGap_108 : decode cX9_layGap 108 = .ok (.iconst (-1), 1) := by decide +kernel
theorem dX9_layGap_109 : decode cX9_layGap 109 = .ok (.iconst 0, 1) := by decide +kernel
theorem dX9_layGap_110 : decode cX9_layGap 110 = .ok (.aload_n 0, 1) := by decide +kernel
theorem dX9_layGap_111 : decode cX9_layGap 111 = .ok (.getfield 203, 3) := by decide +kernel
theorem dX9_layGap_114 : decode cX9_layGap 114 = .ok (.invokevirtual 206, 3) := by decide +kernel
theorem dX9_layGap_117 : decode cX9_layGap 117 = .ok (.iinc 6 1, 3) := by decide +kernel
theorem dX9_layGap_120 : decode cX9_layGap 120 = .ok (.goto (-103), 3) := by decide +kernel
theorem dX9_layGap_123 : decode cX9_layGap 123 = .ok (.iconst 0, 1) := by decide +kernel
theorem dX9_layGap_124 : decode cX9_layGap 124 = .ok (.istore 6, 2) := by decide +kernel
theorem dX9_layGap_126 : decode cX9_layGap 126 = .ok (.iload 6, 2) := by decide +kernel
theorem dX9_layGap_128 : decode cX9_layGap 128 = .ok (.iload 4, 2) := by decide +kernel
theorem dX9_layGap_130 : decode cX9_layGap 130 = .ok (.if_icmp .ge 107, 3) := by decide +kernel
theorem dX9_layGap_133 : decode cX9_layGap 133 = .ok (.aload_n 0, 1) := by decide +kernel
theorem dX9_layGap_134 : decode cX9_layGap 134 = .ok (.getfield 49, 3) := by decide +kernel
theorem dX9_layGap_137 : decode cX9_layGap 137 = .ok (.bipush 16, 2) := by decide +kernel
theorem dX9_layGap_139 : decode cX9_layGap 139 = .ok (.iload_n 2, 1) := by decide +kernel
theorem dX9_layGap_140 : decode cX9_layGap 140 = .ok (.iadd, 1) := by decide +kernel
theorem dX9_layGap_141 : decode cX9_layGap 141 = .ok (.iload 6, 2) := by decide +kernel
theorem dX9_layGap_143 : decode cX9_layGap 143 = .ok (.iadd, 1) := by decide +kernel
theorem dX9_layGap_144 : decode cX9_layGap 144 = .ok (.iaload, 1) := by decide +kernel
theorem dX9_layGap_145 : decode cX9_layGap 145 = .ok (.istore 7, 2) := by decide +kernel
theorem dX9_layGap_147 : decode cX9_layGap 147 = .ok (.iload 7, 2) := by decide +kernel
theorem dX9_layGap_149 : decode cX9_layGap 149 = .ok (.iconst (-1), 1) := by decide +kernel
theorem dX9_layGap_150 : decode cX9_layGap 150 = .ok (.if_icmp .ne 21, 3) := by decide +kernel
theorem dX9_layGap_153 : decode cX9_layGap 153 = .ok (.aload_n 0, 1) := by decide +kernel
theorem dX9_layGap_154 : decode cX9_layGap 154 = .ok (.iconst 2, 1) := by decide +kernel
theorem dX9_layGap_155 : decode cX9_layGap 155 = .ok (.iconst (-1), 1) := by decide +kernel
theorem dX9_layGap_156 : decode cX9_layGap 156 = .ok (.iload_n 2, 1) := by decide +kernel
theorem dX9_layGap_157 : decode cX9_layGap 157 = .ok (.iload 6, 2) := by decide +kernel
theorem dX9_layGap_159 : decode cX9_layGap 159 = .ok (.iadd, 1) := by decide +kernel
theorem dX9_layGap_160 : decode cX9_layGap 160 = .ok (.iconst 0, 1) := by decide +kernel
theorem dX9_layGap_161 : decode cX9_layGap 161 = .ok (.aload_n 0, 1) := by decide +kernel
theorem dX9_layGap_162 : decode cX9_layGap 162 = .ok (.getfield 203, 3) := by decide +kernel
theorem dX9_layGap_165 : decode cX9_layGap 165 = .ok (.invokevirtual 206, 3) := by decide +kernel
theorem dX9_layGap_168 : decode cX9_layGap 168 = .ok (.goto 63, 3) := by decide +kernel
theorem dX9_layGap_171 : decode cX9_layGap 171 = .ok (.aload_n 0, 1) := by decide +kernel
theorem dX9_layGap_172 : decode cX9_layGap 172 = .ok (.aload_n 0, 1) := by decide +kernel
theorem dX9_layGap_173 : decode cX9_layGap 173 = .ok (.aload_n 0, 1) := by decide +kernel
theorem dX9_layGap_174 : decode cX9_layGap 174 = .ok (.getfield 19, 3) := by decide +kernel
theorem dX9_layGap_177 : decode cX9_layGap 177 = .ok (.iload 7, 2) := by decide +kernel
theorem dX9_layGap_179 : decode cX9_layGap 179 = .ok (.iaload, 1) := by decide +kernel
theorem dX9_layGap_180 : decode cX9_layGap 180 = .ok (.aload_n 0, 1) := by decide +kernel
theorem dX9_layGap_181 : decode cX9_layGap 181 = .ok (.getfield 19, 3) := by decide +kernel
theorem dX9_layGap_184 : decode cX9_layGap 184 = .ok (.bipush 16, 2) := by decide +kernel
theorem dX9_layGap_186 : decode cX9_layGap 186 = .ok (.iload_n 2, 1) := by decide +kernel
theorem dX9_layGap_187 : decode cX9_layGap 187 = .ok (.iadd, 1) := by decide +kernel
theorem dX9_layGap_188 : decode cX9_layGap 188 = .ok (.iload 6, 2) := by decide +kernel
theorem dX9_layGap_190 : decode cX9_layGap 190 = .ok (.iadd, 1) := by decide +kernel
theorem dX9_layGap_191 : decode cX9_layGap 191 = .ok (.iaload, 1) := by decide +kernel
theorem dX9_layGap_192 : decode cX9_layGap 192 = .ok (.invokevirtual 200, 3) := by decide +kernel
theorem dX9_layGap_195 : decode cX9_layGap 195 = .ok (.iload 7, 2) := by decide +kernel
theorem dX9_layGap_197 : decode cX9_layGap 197 = .ok (.iload_n 2, 1) := by decide +kernel
theorem dX9_layGap_198 : decode cX9_layGap 198 = .ok (.iload 6, 2) := by decide +kernel
theorem dX9_layGap_200 : decode cX9_layGap 200 = .ok (.iadd, 1) := by decide +kernel
theorem dX9_layGap_201 : decode cX9_layGap 201 = .ok (.aload_n 0, 1) := by decide +kernel
theorem dX9_layGap_202 : decode cX9_layGap 202 = .ok (.aload_n 0, 1) := by decide +kernel
theorem dX9_layGap_203 : decode cX9_layGap 203 = .ok (.getfield 19, 3) := by decide +kernel
theorem dX9_layGap_206 : decode cX9_layGap 206 = .ok (.iload 7, 2) := by decide +kernel
theorem dX9_layGap_208 : decode cX9_layGap 208 = .ok (.iaload, 1) := by decide +kernel
theorem dX9_layGap_209 : decode cX9_layGap 209 = .ok (.aload_n 0, 1) := by decide +kernel
theorem dX9_layGap_210 : decode cX9_layGap 210 = .ok (.getfield 19, 3) := by decide +kernel
theorem dX9_layGap_213 : decode cX9_layGap 213 = .ok (.bipush 16, 2) := by decide +kernel
theorem dX9_layGap_215 : decode cX9_layGap 215 = .ok (.iload_n 2, 1) := by decide +kernel
theorem dX9_layGap_216 : decode cX9_layGap 216 = .ok (.iadd, 1) := by decide +kernel
theorem dX9_layGap_217 : decode cX9_layGap 217 = .ok (.iload 6, 2) := by decide +kernel
theorem dX9_layGap_219 : decode cX9_layGap 219 = .ok (.iadd, 1) := by decide +kernel
theorem dX9_layGap_220 : decode cX9_layGap 220 = .ok (.iaload, 1) := by decide +kernel
theorem dX9_layGap_221 : decode cX9_layGap 221 = .ok (.invokevirtual 194, 3) := by decide +kernel
theorem dX9_layGap_224 : decode cX9_layGap 224 = .ok (.aload_n 0, 1) := by decide +kernel
theorem dX9_layGap_225 : decode cX9_layGap 225 = .ok (.getfield 203, 3) := by decide +kernel
theorem dX9_layGap_228 : decode cX9_layGap 228 = .ok (.invokevirtual 206, 3) := by decide +kernel
theorem dX9_layGap_231 : decode cX9_layGap 231 = .ok (.iinc 6 1, 3) := by decide +kernel
theorem dX9_layGap_234 : decode cX9_layGap 234 = .ok (.goto (-108), 3) := by decide +kernel
theorem dX9_layGap_237 : decode cX9_layGap 237 = .ok (.aload_n 0, 1) := by decide +kernel
theorem dX9_layGap_238 : decode cX9_layGap 238 = .ok (.dup, 1) := by decide +kernel
theorem dX9_layGap_239 : decode cX9_layGap 239 = .ok (.getfield 203, 3) := by decide +kernel
theorem dX9_layGap_242 : decode cX9_layGap 242 = .ok (.iconst 1, 1) := by decide +kernel
theorem dX9_layGap_243 : decode cX9_layGap 243 = .ok (.iadd, 1) := by decide +kernel
theorem dX9_layGap_244 : decode cX9_layGap 244 = .ok (.putfield 203, 3) := by decide +kernel
theorem dX9_layGap_247 : decode cX9_layGap 247 = .ok (.return_, 1) := by decide +kernel
theorem dX9_layScript_0 : decode cX9_layScript 0 = .ok (.iconst 0, 1) := by decide +kernel
theorem dX9_layScript_1 : decode cX9_layScript 1 = .ok (.istore_n 1, 1) := by decide +kernel
theorem dX9_layScript_2 : decode cX9_layScript 2 = .ok (.iload_n 1, 1) := by decide +kernel
theorem dX9_layScript_3 : decode cX9_layScript 3 = .ok (.bipush 15, 2) := by decide +kernel
theorem dX9_layScript_5 : decode cX9_layScript 5 = .ok (.if_icmp .ge 16, 3) := by decide +kernel
theorem dX9_layScript_8 : decode cX9_layScript 8 = .ok (.aload_n 0, 1) := by decide +kernel
theorem dX9_layScript_9 : decode cX9_layScript 9 = .ok (.getfield 52, 3) := by decide +kernel
theorem dX9_layScript_12 : decode cX9_layScript 12 = .ok (.iload_n 1, 1) := by decide +kernel
theorem dX9_layScript_13 : decode cX9_layScript 13 = .ok (.iconst (-1), 1) := by decide +kernel
theorem dX9_layScript_14 : decode cX9_layScript 14 = .ok (.iastore, 1) := by decide +kernel
theorem dX9_layScript_15 : decode cX9_layScript 15 = .ok (.iinc 1 1, 3) := by decide +kernel
theorem dX9_layScript_18 : decode cX9_layScript 18 = .ok (.goto (-16), 3) := by decide +kernel
theorem dX9_layScript_21 : decode cX9_layScript 21 = .ok (.aload_n 0, 1) := by decide +kernel
theorem dX9_layScript_22 : decode cX9_layScript 22 = .ok (.invokevirtual 209, 3) := by decide +kernel
theorem dX9_layScript_25 : decode cX9_layScript 25 = .ok (.aload_n 0, 1) := by decide +kernel
theorem dX9_layScript_26 : decode cX9_layScript 26 = .ok (.iconst 0, 1) := by decide +kernel
theorem dX9_layScript_27 : decode cX9_layScript 27 = .ok (.putfield 197, 3) := by decide +kernel
theorem dX9_layScript_30 : decode cX9_layScript 30 = .ok (.aload_n 0, 1) := by decide +kernel
theorem dX9_layScript_31 : decode cX9_layScript 31 = .ok (.iconst 0, 1) := by decide +kernel
theorem dX9_layScript_32 : decode cX9_layScript 32 = .ok (.putfield 203, 3) := by decide +kernel
theorem dX9_layScript_35 : decode cX9_layScript 35 = .ok (.iconst 0, 1) := by decide +kernel
theorem dX9_layScript_36 : decode cX9_layScript 36 = .ok (.istore_n 1, 1) := by decide +kernel
theorem dX9_layScript_37 : decode cX9_layScript 37 = .ok (.iload_n 1, 1) := by decide +kernel
theorem dX9_layScript_38 : decode cX9_layScript 38 = .ok (.bipush 32, 2) := by decide +kernel
theorem dX9_layScript_40 : decode cX9_layScript 40 = .ok (.if_icmp .ge 16, 3) := by decide +kernel
theorem dX9_layScript_43 : decode cX9_layScript 43 = .ok (.aload_n 0, 1) := by decide +kernel
theorem dX9_layScript_44 : decode cX9_layScript 44 = .ok (.getfield 49, 3) := by decide +kernel
theorem dX9_layScript_47 : decode cX9_layScript 47 = .ok (.iload_n 1, 1) := by decide +kernel
theorem dX9_layScript_48 : decode cX9_layScript 48 = .ok (.iconst (-1), 1) := by decide +kernel
theorem dX9_layScript_49 : decode cX9_layScript 49 = .ok (.iastore, 1) := by decide +kernel
theorem dX9_layScript_50 : decode cX9_layScript 50 = .ok (.iinc 1 1, 3) := by decide +kernel
theorem dX9_layScript_53 : decode cX9_layScript 53 = .ok (.goto (-16), 3) := by decide +kernel
theorem dX9_layScript_56 : decode cX9_layScript 56 = .ok (.iconst 0, 1) := by decide +kernel
theorem dX9_layScript_57 : decode cX9_layScript 57 = .ok (.istore_n 1, 1) := by decide +kernel
theorem dX9_layScript_58 : decode cX9_layScript 58 = .ok (.iconst 0, 1) := by decide +kernel
theorem dX9_layScript_59 : decode cX9_layScript 59 = .ok (.istore_n 2, 1) := by decide +kernel
theorem dX9_layScript_60 : decode cX9_layScript 60 = .ok (.iload_n 1, 1) := by decide +kernel
theorem dX9_layScript_61 : decode cX9_layScript 61 = .ok (.aload_n 0, 1) := by decide +kernel
theorem dX9_layScript_62 : decode cX9_layScript 62 = .ok (.getfield 22, 3) := by decide +kernel
theorem dX9_layScript_65 : decode cX9_layScript 65 = .ok (.iconst 0, 1) := by decide +kernel
theorem dX9_layScript_66 : decode cX9_layScript 66 = .ok (.iaload, 1) := by decide +kernel
theorem dX9_layScript_67 : decode cX9_layScript 67 = .ok (.if_icmp .lt 13, 3) := by decide +kernel
theorem dX9_layScript_70 : decode cX9_layScript 70 = .ok (.iload_n 2, 1) := by decide +kernel
theorem dX9_layScript_71 : decode cX9_layScript 71 = .ok (.aload_n 0, 1) := by decide +kernel
theorem dX9_layScript_72 : decode cX9_layScript 72 = .ok (.getfield 22, 3) := by decide +kernel
theorem dX9_layScript_75 : decode cX9_layScript 75 = .ok (.iconst 1, 1) := by decide +kernel
theorem dX9_layScript_76 : decode cX9_layScript 76 = .ok (.iaload, 1) := by decide +kernel
theorem dX9_layScript_77 : decode cX9_layScript 77 = .ok (.if_icmp .ge 72, 3) := by decide +kernel
theorem dX9_layScript_80 : decode cX9_layScript 80 = .ok (.aload_n 0, 1) := by decide +kernel
theorem dX9_layScript_81 : decode cX9_layScript 81 = .ok (.iconst 0, 1) := by decide +kernel
theorem dX9_layScript_82 : decode cX9_layScript 82 = .ok (.iload_n 1, 1) := by decide +kernel
theorem dX9_layScript_83 : decode cX9_layScript 83 = .ok (.invokevirtual 212, 3) := by decide +kernel
theorem dX9_layScript_86 : decode cX9_layScript 86 = .ok (.istore_n 3, 1) := by decide +kernel
theorem dX9_layScript_87 : decode cX9_layScript 87 = .ok (.aload_n 0, 1) := by decide +kernel
theorem dX9_layScript_88 : decode cX9_layScript 88 = .ok (.iconst 1, 1) := by decide +kernel
theorem dX9_layScript_89 : decode cX9_layScript 89 = .ok (.iload_n 2, 1) := by decide +kernel
theorem dX9_layScript_90 : decode cX9_layScript 90 = .ok (.invokevirtual 212, 3) := by decide +kernel
theorem dX9_layScript_93 : decode cX9_layScript 93 = .ok (.istore 4, 2) := by decide +kernel
theorem dX9_layScript_95 : decode cX9_layScript 95 = .ok (.iload_n 3, 1) := by decide +kernel
theorem dX9_layScript_96 : decode cX9_layScript 96 = .ok (.iload 4, 2) := by decide +kernel
theorem dX9_layScript_98 : decode cX9_layScript 98 = .ok (.iadd, 1) := by decide +kernel
theorem dX9_layScript_99 : decode cX9_layScript 99 = .ok (.ifCond .le 12, 3) := by decide +kernel
theorem dX9_layScript_102 : decode cX9_layScript 102 = .ok (.aload_n 0, 1) := by decide +kernel
theorem dX9_layScript_103 : decode cX9_layScript 103 = .ok (.iload_n 1, 1) := by decide +kernel
theorem dX9_layScript_104 : decode cX9_layScript 104 = .ok (.iload_n 2, 1) := by decide +kernel
theorem dX9_layScript_105 : decode cX9_layScript 105 = .ok (.iload_n 3, 1) := by decide +kernel
theorem dX9_layScript_106 : decode cX9_layScript 106 = .ok (.iload 4, 2) := by decide +kernel
theorem dX9_layScript_108 : decode cX9_layScript 108 = .ok (.invokevirtual 215, 3) := by decide +kernel
theorem dX9_layScript_111 : decode cX9_layScript 111 = .ok (.iload_n 1, 1) := by decide +kernel
theorem dX9_layScript_112 : decode cX9_layScript 112 = .ok (.iload_n 3, 1) := by decide +kernel
theorem dX9_layScript_113 : decode cX9_layScript 113 = .ok (.iadd, 1) := by decide +kernel
theorem dX9_layScript_114 : decode cX9_layScript 114 = .ok (.istore_n 1, 1) := by decide +kernel
theorem dX9_layScript_115 : decode cX9_layScript 115 = .ok (.iload_n 2, 1) := by decide +kernel
theorem dX9_layScript_116 : decode cX9_layScript 116 = .ok (.iload 4, 2) := by decide +kernel
theorem dX9_layScript_118 : decode cX9_layScript 118 = .ok (.iadd, 1) := by decide +kernel
theorem dX9_layScript_119 : decode cX9_layScript 119 = .ok (.istore_n 2, 1) := by decide +kernel
theorem dX9_layScript_120 : decode cX9_layScript 120 = .ok (.iload_n 1, 1) := by decide +kernel
theorem dX9_layScript_121 : decode cX9_layScript 121 = .ok (.aload_n 0, 1) := by decide +kernel
theorem dX9_layScript_122 : decode cX9_layScript 122 = .ok (.getfield 22, 3) := by decide +kernel
theorem dX9_layScript_125 : decode cX9_layScript 125 = .ok (.iconst 0, 1) := by decide +kernel
theorem dX9_layScript_126 : decode cX9_layScript 126 = .ok (.iaload, 1) := by decide +kernel
theorem dX9_layScript_127 : decode cX9_layScript 127 = .ok (.if_icmp .ge 19, 3) := by decide +kernel
theorem dX9_layScript_130 : decode cX9_layScript 130 = .ok (.aload_n 0, 1) := by decide +kernel
theorem dX9_layScript_131 : decode cX9_layScript 131 = .ok (.iconst 0, 1) := by decide +kernel
theorem dX9_layScript_132 : decode cX9_layScript 132 = .ok (.iload_n 1, 1) := by decide +kernel
theorem dX9_layScript_133 : decode cX9_layScript 133 = .ok (.iload_n 2, 1) := by decide +kernel
theorem dX9_layScript_134 : decode cX9_layScript 134 = .ok (.ldc 218, 2) := by decide +kernel
theorem dX9_layScript_136 : decode cX9_layScript 136 = .ok (.iconst (-1), 1) := by decide +kernel
theorem dX9_layScript_137 : decode cX9_layScript 137 = .ok (.invokevirtual 206, 3) := by decide +kernel
theorem dX9_layScript_140 : decode cX9_layScript 140 = .ok (.iinc 1 1, 3) := by decide +kernel
theorem dX9_layScript_143 : decode cX9_layScript 143 = .ok (.iinc 2 1, 3) := by decide +kernel
theorem dX9_layScript_146 : decode cX9_layScript 146 = .ok (.goto (-86), 3) := by decide +kernel
theorem dX9_layScript_149 : decode cX9_layScript 149 = .ok (.return_, 1) := by decide +kernel
theorem dX9_layKept_0 : decode cX9_layKept 0 = .ok (.aload_n 0, 1) := by decide +kernel
theorem dX9_layKept_1 : decode cX9_layKept 1 = .ok (.invokevirtual 219, 3) := by decide +kernel
theorem dX9_layKept_4 : decode cX9_layKept 4 = .ok (.aload_n 0, 1) := by decide +kernel
theorem dX9_layKept_5 : decode cX9_layKept 5 = .ok (.invokevirtual 222, 3) := by decide +kernel
theorem dX9_layKept_8 : decode cX9_layKept 8 = .ok (.return_, 1) := by decide +kernel
theorem dX9_isStep_0 : decode cX9_isStep 0 = .ok (.iload_n 1, 1) := by decide +kernel
theorem dX9_isStep_1 : decode cX9_isStep 1 = .ok (.i2l, 1) := by decide +kernel
theorem dX9_isStep_2 : decode cX9_isStep 2 = .ok (.lconst 0, 1) := by decide +kernel
theorem dX9_isStep_3 : decode cX9_isStep 3 = .ok (.aload_n 0, 1) := by decide +kernel
theorem dX9_isStep_4 : decode cX9_isStep 4 = .ok (.getfield 197, 3) := by decide +kernel
theorem dX9_isStep_7 : decode cX9_isStep 7 = .ok (.iconst 1, 1) := by decide +kernel
theorem dX9_isStep_8 : decode cX9_isStep 8 = .ok (.isub, 1) := by decide +kernel
theorem dX9_isStep_9 : decode cX9_isStep 9 = .ok (.i2l, 1) := by decide +kernel
theorem dX9_isStep_10 : decode cX9_isStep 10 = .ok (.invokestatic 73, 3) := by decide +kernel
theorem dX9_isStep_13 : decode cX9_isStep 13 = .ok (.ireturn, 1) := by decide +kernel
theorem dX9_step_0 : decode cX9_step 0 = .ok (.aload_n 0, 1) := by decide +kernel
theorem dX9_step_1 : decode cX9_step 1 = .ok (.iload_n 1, 1) := by decide +kernel
theorem dX9_step_2 : decode cX9_step 2 = .ok (.invokevirtual 225, 3) := by decide +kernel
theorem dX9_step_5 : decode cX9_step 5 = .ok (.ifCond .ne 6, 3) := by decide +kernel
theorem dX9_step_8 : decode cX9_step 8 = .ok (.bipush (-101), 2) := by decide +kernel
theorem dX9_step_10 : decode cX9_step 10 = .ok (.ireturn, 1) := by decide +kernel
theorem dX9_step_11 : decode cX9_step 11 = .ok (.iload_n 2, 1) := by decide +kernel
theorem dX9_step_12 : decode cX9_step 12 = .ok (.i2l, 1) := by decide +kernel
theorem dX9_step_13 : decode cX9_step 13 = .ok (.lconst 0, 1) := by decide +kernel
theorem dX9_step_14 : decode cX9_step 14 = .ok (.ldc2_w 228, 3) := by decide +kernel
theorem dX9_step_17 : decode cX9_step 17 = .ok (.invokestatic 73, 3) := by decide +kernel
theorem dX9_step_20 : decode cX9_step 20 = .ok (.ifCond .eq 16, 3) := by decide +kernel
theorem dX9_step_23 : decode cX9_step 23 = .ok (.aload_n 0, 1) := by decide +kernel
theorem dX9_step_24 : decode cX9_step 24 = .ok (.getfield 46, 3) := by decide +kernel
theorem dX9_step_27 : decode cX9_step 27 = .ok (.iconst 5, 1) := by decide +kernel
theorem dX9_step_28 : decode cX9_step 28 = .ok (.iload_n 1, 1) := by decide +kernel
theorem dX9_step_29 : decode cX9_step 29 = .ok (.imul, 1) := by decide +kernel
theorem dX9_step_30 : decode cX9_step 30 = .ok (.iload_n 2, 1) := by decide +kernel
theorem dX9_step_31 : decode cX9_step 31 = .ok (.iadd, 1) := by decide +kernel
theorem dX9_step_32 : decode cX9_step 32 = .ok (.iaload, 1) := by decide +kernel
theorem dX9_step_33 : decode cX9_step 33 = .ok (.goto 5, 3) := by decide +kernel
theorem dX9_step_36 : decode cX9_step 36 = .ok (.bipush (-102), 2) := by decide +kernel
theorem dX9_step_38 : decode cX9_step 38 = .ok (.ireturn, 1) := by decide +kernel
theorem dX9_lettersBy_0 : decode cX9_lettersBy 0 = .ok (.aload_n 0, 1) := by decide +kernel
theorem dX9_lettersBy_1 : decode cX9_lettersBy 1 = .ok (.getfield 19, 3) := by decide +kernel
theorem dX9_lettersBy_4 : decode cX9_lettersBy 4 = .ok (.aload_n 0, 1) := by decide +kernel
theorem dX9_lettersBy_5 : decode cX9_lettersBy 5 = .ok (.getfield 46, 3) := by decide +kernel
theorem dX9_lettersBy_8 : decode cX9_lettersBy 8 = .ok (.iconst 5, 1) := by decide +kernel
theorem dX9_lettersBy_9 : decode cX9_lettersBy 9 = .ok (.iload_n 1, 1) := by decide +kernel
theorem dX9_lettersBy_10 : decode cX9_lettersBy 10 = .ok (.imul, 1) := by decide +kernel
theorem dX9_lettersBy_11 : decode cX9_lettersBy 11 = .ok (.iconst 1, 1) := by decide +kernel
theorem dX9_lettersBy_12 : decode cX9_lettersBy 12 = .ok (.iadd, 1) := by decide +kernel
theorem dX9_lettersBy_13 : decode cX9_lettersBy 13 = .ok (.iaload, 1) := by decide +kernel
theorem dX9_lettersBy_14 : decode cX9_lettersBy 14 = .ok (.iaload, 1) := by decide +kernel
theorem dX9_lettersBy_15 : decode cX9_lettersBy 15 = .ok (.istore_n 3, 1) := by decide +kernel
theorem dX9_lettersBy_16 : decode cX9_lettersBy 16 = .ok (.aload_n 0, 1) := by decide +kernel
theorem dX9_lettersBy_17 : decode cX9_lettersBy 17 = .ok (.getfield 19, 3) := by decide +kernel
theorem dX9_lettersBy_20 : decode cX9_lettersBy 20 = .ok (.bipush 16, 2) := by decide +kernel
theorem dX9_lettersBy_22 : decode cX9_lettersBy 22 = .ok (.aload_n 0, 1) := by decide +kernel
theorem dX9_lettersBy_23 : decode cX9_lettersBy 23 = .ok (.getfield 46, 3) := by decide +kernel
theorem dX9_lettersBy_26 : decode cX9_lettersBy 26 = .ok (.iconst 5, 1) := by decide +kernel
theorem dX9_lettersBy_27 : decode cX9_lettersBy 27 = .ok (.iload_n 1, 1) := by decide +kernel
theorem dX9_lettersBy_28 : decode cX9_lettersBy 28 = .ok (.imul, 1) := by decide +kernel
theorem dX9_lettersBy_29 : decode cX9_lettersBy 29 = .ok (.iconst 2, 1) := by decide +kernel
theorem dX9_lettersBy_30 : decode cX9_lettersBy 30 = .ok (.iadd, 1) := by decide +kernel
theorem dX9_lettersBy_31 : decode cX9_lettersBy 31 = .ok (.iaload, 1) := by decide +kernel
theorem dX9_lettersBy_32 : decode cX9_lettersBy 32 = .ok (.iadd, 1) := by decide +kernel
theorem dX9_lettersBy_33 : decode cX9_lettersBy 33 = .ok (.iaload, 1) := by decide +kernel
theorem dX9_lettersBy_34 : decode cX9_lettersBy 34 = .ok (.istore 4, 2) := by decide +kernel
theorem dX9_lettersBy_36 : decode cX9_lettersBy 36 = .ok (.aload_n 0, 1) := by decide +kernel
theorem dX9_lettersBy_37 : decode cX9_lettersBy 37 = .ok (.iload_n 3, 1) := by decide +kernel
theorem dX9_lettersBy_38 : decode cX9_lettersBy 38 = .ok (.iload 4, 2) := by decide +kernel
theorem dX9_lettersBy_40 : decode cX9_lettersBy 40 = .ok (.invokevirtual 184, 3) := by decide +kernel
theorem dX9_lettersBy_43 : decode cX9_lettersBy 43 = .ok (.istore 5, 2) := by decide +kernel
theorem dX9_lettersBy_45 : decode cX9_lettersBy 45 = .ok (.iload_n 2, 1) := by decide +kernel
theorem dX9_lettersBy_46 : decode cX9_lettersBy 46 = .ok (.ifCond .ne 8, 3) := by decide +kernel
theorem dX9_lettersBy_49 : decode cX9_lettersBy 49 = .ok (.iload 5, 2) := by decide +kernel
theorem dX9_lettersBy_51 : decode cX9_lettersBy 51 = .ok (.goto 26, 3) := by decide +kernel
theorem dX9_lettersBy_54 : decode cX9_lettersBy 54 = .ok (.iload_n 2, 1) := by decide +kernel
theorem dX9_lettersBy_55 : decode cX9_lettersBy 55 = .ok (.iconst 1, 1) := by decide +kernel
theorem dX9_lettersBy_56 : decode cX9_lettersBy 56 = .ok (.if_icmp .ne 13, 3) := by decide +kernel
theorem dX9_lettersBy_59 : decode cX9_lettersBy 59 = .ok (.iload_n 3, 1) := by decide +kernel
theorem dX9_lettersBy_60 : decode cX9_lettersBy 60 = .ok (.invokestatic 177, 3) := by decide +kernel
theorem dX9_lettersBy_63 : decode cX9_lettersBy 63 = .ok (.iload 5, 2) := by decide +kernel
theorem dX9_lettersBy_65 : decode cX9_lettersBy 65 = .ok (.isub, 1) := by decide +kernel
theorem dX9_lettersBy_66 : decode cX9_lettersBy 66 = .ok (.goto 11, 3) := by decide +kernel
theorem dX9_lettersBy_69 : decode cX9_lettersBy 69 = .ok (.iload 4, 2) := by decide +kernel
theorem dX9_lettersBy_71 : decode cX9_lettersBy 71 = .ok (.invokestatic 177, 3) := by decide +kernel
theorem dX9_lettersBy_74 : decode cX9_lettersBy 74 = .ok (.iload 5, 2) := by decide +kernel
theorem dX9_lettersBy_76 : decode cX9_lettersBy 76 = .ok (.isub, 1) := by decide +kernel
theorem dX9_lettersBy_77 : decode cX9_lettersBy 77 = .ok (.ireturn, 1) := by decide +kernel
theorem dX9_letters_0 : decode cX9_letters 0 = .ok (.aload_n 0, 1) := by decide +kernel
theorem dX9_letters_1 : decode cX9_letters 1 = .ok (.iload_n 1, 1) := by decide +kernel
theorem dX9_letters_2 : decode cX9_letters 2 = .ok (.invokevirtual 225, 3) := by decide +kernel
theorem dX9_letters_5 : decode cX9_letters 5 = .ok (.ifCond .ne 6, 3) := by decide +kernel
theorem dX9_letters_8 : decode cX9_letters 8 = .ok (.bipush (-101), 2) := by decide +kernel
theorem dX9_letters_10 : decode cX9_letters 10 = .ok (.ireturn, 1) := by decide +kernel
theorem dX9_letters_11 : decode cX9_letters 11 = .ok (.aload_n 0, 1) := by decide +kernel
theorem dX9_letters_12 : decode cX9_letters 12 = .ok (.getfield 46, 3) := by decide +kernel
theorem dX9_letters_15 : decode cX9_letters 15 = .ok (.iconst 5, 1) := by decide +kernel
theorem dX9_letters_16 : decode cX9_letters 16 = .ok (.iload_n 1, 1) := by decide +kernel
theorem dX9_letters_17 : decode cX9_letters 17 = .ok (.imul, 1) := by decide +kernel
theorem dX9_letters_18 : decode cX9_letters 18 = .ok (.iaload, 1) := by decide +kernel
theorem dX9_letters_19 : decode cX9_letters 19 = .ok (.iconst 3, 1) := by decide +kernel
theorem dX9_letters_20 : decode cX9_letters 20 = .ok (.if_icmp .ge 6, 3) := by decide +kernel
theorem dX9_letters_23 : decode cX9_letters 23 = .ok (.bipush (-103), 2) := by decide +kernel
theorem dX9_letters_25 : decode cX9_letters 25 = .ok (.ireturn, 1) := by decide +kernel
theorem dX9_letters_26 : decode cX9_letters 26 = .ok (.iload_n 2, 1) := by decide +kernel
theorem dX9_letters_27 : decode cX9_letters 27 = .ok (.i2l, 1) := by decide +kernel
theorem dX9_letters_28 : decode cX9_letters 28 = .ok (.lconst 0, 1) := by decide +kernel
theorem dX9_letters_29 : decode cX9_letters 29 = .ok (.ldc2_w 175, 3) := by decide +kernel
theorem dX9_letters_32 : decode cX9_letters 32 = .ok (.invokestatic 73, 3) := by decide +kernel
theorem dX9_letters_35 : decode cX9_letters 35 = .ok (.ifCond .eq 12, 3) := by decide +kernel
theorem dX9_letters_38 : decode cX9_letters 38 = .ok (.aload_n 0, 1) := by decide +kernel
theorem dX9_letters_39 : decode cX9_letters 39 = .ok (.iload_n 1, 1) := by decide +kernel
theorem dX9_letters_40 : decode cX9_letters 40 = .ok (.iload_n 2, 1) := by decide +kernel
theorem dX9_letters_41 : decode cX9_letters 41 = .ok (.invokevirtual 230, 3) := by decide +kernel
theorem dX9_letters_44 : decode cX9_letters 44 = .ok (.goto 5, 3) := by decide +kernel
theorem dX9_letters_47 : decode cX9_letters 47 = .ok (.bipush (-102), 2) := by decide +kernel
theorem dX9_letters_49 : decode cX9_letters 49 = .ok (.ireturn, 1) := by decide +kernel
theorem dX9_tellLine_0 : decode cX9_tellLine 0 = .ok (.aload_n 0, 1) := by decide +kernel
theorem dX9_tellLine_1 : decode cX9_tellLine 1 = .ok (.getfield 19, 3) := by decide +kernel
theorem dX9_tellLine_4 : decode cX9_tellLine 4 = .ok (.bipush 16, 2) := by decide +kernel
theorem dX9_tellLine_6 : decode cX9_tellLine 6 = .ok (.iload_n 1, 1) := by decide +kernel
end
section
theorem dX9_tellLine_7 : decode cX9_tellLine 7 = .ok (.imul, 1) := by decide +kernel
theorem dX9_tellLine_8 : decode cX9_tellLine 8 = .ok (.iload_n 2, 1) := by decide +kernel
theorem dX9_tellLine_9 : decode cX9_tellLine 9 = .ok (.iadd, 1) := by decide +kernel
theorem dX9_tellLine_10 : decode cX9_tellLine 10 = .ok (.iaload, 1) := by decide +kernel
theorem dX9_tellLine_11 : decode cX9_tellLine 11 = .ok (.istore 4, 2) := by decide +kernel
theorem dX9_tellLine_13 : decode cX9_tellLine 13 = .ok (.iload_n 3, 1) := by decide +kernel
theorem dX9_tellLine_14 : decode cX9_tellLine 14 = .ok (.tableswitch 128 0 5 #[38, 44, 44, 44, 66, 107], 38) := by decide +kernel
theorem dX9_tellLine_52 : decode cX9_tellLine 52 = .ok (.iload 4, 2) := by decide +kernel
theorem dX9_tellLine_54 : decode cX9_tellLine 54 = .ok (.invokestatic 177, 3) := by decide +kernel
theorem dX9_tellLine_57 : decode cX9_tellLine 57 = .ok (.ireturn, 1) := by decide +kernel
theorem dX9_tellLine_58 : decode cX9_tellLine 58 = .ok (.iload_n 3, 1) := by decide +kernel
theorem dX9_tellLine_59 : decode cX9_tellLine 59 = .ok (.iload 4, 2) := by decide +kernel
theorem dX9_tellLine_61 : decode cX9_tellLine 61 = .ok (.invokestatic 177, 3) := by decide +kernel
theorem dX9_tellLine_64 : decode cX9_tellLine 64 = .ok (.if_icmp .gt 14, 3) := by decide +kernel
theorem dX9_tellLine_67 : decode cX9_tellLine 67 = .ok (.iload 4, 2) := by decide +kernel
theorem dX9_tellLine_69 : decode cX9_tellLine 69 = .ok (.iload_n 3, 1) := by decide +kernel
theorem dX9_tellLine_70 : decode cX9_tellLine 70 = .ok (.iconst 1, 1) := by decide +kernel
theorem dX9_tellLine_71 : decode cX9_tellLine 71 = .ok (.isub, 1) := by decide +kernel
theorem dX9_tellLine_72 : decode cX9_tellLine 72 = .ok (.invokestatic 181, 3) := by decide +kernel
theorem dX9_tellLine_75 : decode cX9_tellLine 75 = .ok (.goto 4, 3) := by decide +kernel
theorem dX9_tellLine_78 : decode cX9_tellLine 78 = .ok (.iconst (-1), 1) := by decide +kernel
theorem dX9_tellLine_79 : decode cX9_tellLine 79 = .ok (.ireturn, 1) := by decide +kernel
theorem dX9_tellLine_80 : decode cX9_tellLine 80 = .ok (.aload_n 0, 1) := by decide +kernel
theorem dX9_tellLine_81 : decode cX9_tellLine 81 = .ok (.getfield 25, 3) := by decide +kernel
theorem dX9_tellLine_84 : decode cX9_tellLine 84 = .ok (.bipush 16, 2) := by decide +kernel
theorem dX9_tellLine_86 : decode cX9_tellLine 86 = .ok (.iload_n 1, 1) := by decide +kernel
theorem dX9_tellLine_87 : decode cX9_tellLine 87 = .ok (.imul, 1) := by decide +kernel
theorem dX9_tellLine_88 : decode cX9_tellLine 88 = .ok (.iload_n 2, 1) := by decide +kernel
theorem dX9_tellLine_89 : decode cX9_tellLine 89 = .ok (.iadd, 1) := by decide +kernel
theorem dX9_tellLine_90 : decode cX9_tellLine 90 = .ok (.iaload, 1) := by decide +kernel
theorem dX9_tellLine_91 : decode cX9_tellLine 91 = .ok (.iconst (-1), 1) := by decide +kernel
theorem dX9_tellLine_92 : decode cX9_tellLine 92 = .ok (.if_icmp .ne 17, 3) := by decide +kernel
theorem dX9_tellLine_95 : decode cX9_tellLine 95 = .ok (.aload_n 0, 1) := by decide +kernel
theorem dX9_tellLine_96 : decode cX9_tellLine 96 = .ok (.getfield 49, 3) := by decide +kernel
theorem dX9_tellLine_99 : decode cX9_tellLine 99 = .ok (.bipush 16, 2) := by decide +kernel
theorem dX9_tellLine_101 : decode cX9_tellLine 101 = .ok (.iload_n 1, 1) := by decide +kernel
theorem dX9_tellLine_102 : decode cX9_tellLine 102 = .ok (.imul, 1) := by decide +kernel
theorem dX9_tellLine_103 : decode cX9_tellLine 103 = .ok (.iload_n 2, 1) := by decide +kernel
theorem dX9_tellLine_104 : decode cX9_tellLine 104 = .ok (.iadd, 1) := by decide +kernel
theorem dX9_tellLine_105 : decode cX9_tellLine 105 = .ok (.iaload, 1) := by decide +kernel
theorem dX9_tellLine_106 : decode cX9_tellLine 106 = .ok (.goto 14, 3) := by decide +kernel
theorem dX9_tellLine_109 : decode cX9_tellLine 109 = .ok (.aload_n 0, 1) := by decide +kernel
theorem dX9_tellLine_110 : decode cX9_tellLine 110 = .ok (.getfield 25, 3) := by decide +kernel
theorem dX9_tellLine_113 : decode cX9_tellLine 113 = .ok (.bipush 16, 2) := by decide +kernel
theorem dX9_tellLine_115 : decode cX9_tellLine 115 = .ok (.iload_n 1, 1) := by decide +kernel
theorem dX9_tellLine_116 : decode cX9_tellLine 116 = .ok (.imul, 1) := by decide +kernel
theorem dX9_tellLine_117 : decode cX9_tellLine 117 = .ok (.iload_n 2, 1) := by decide +kernel
theorem dX9_tellLine_118 : decode cX9_tellLine 118 = .ok (.iadd, 1) := by decide +kernel
theorem dX9_tellLine_119 : decode cX9_tellLine 119 = .ok (.iaload, 1) := by decide +kernel
theorem dX9_tellLine_120 : decode cX9_tellLine 120 = .ok (.ireturn, 1) := by decide +kernel
theorem dX9_tellLine_121 : decode cX9_tellLine 121 = .ok (.aload_n 0, 1) := by decide +kernel
theorem dX9_tellLine_122 : decode cX9_tellLine 122 = .ok (.getfield 25, 3) := by decide +kernel
theorem dX9_tellLine_125 : decode cX9_tellLine 125 = .ok (.bipush 16, 2) := by decide +kernel
theorem dX9_tellLine_127 : decode cX9_tellLine 127 = .ok (.iload_n 1, 1) := by decide +kernel
theorem dX9_tellLine_128 : decode cX9_tellLine 128 = .ok (.imul, 1) := by decide +kernel
theorem dX9_tellLine_129 : decode cX9_tellLine 129 = .ok (.iload_n 2, 1) := by decide +kernel
theorem dX9_tellLine_130 : decode cX9_tellLine 130 = .ok (.iadd, 1) := by decide +kernel
theorem dX9_tellLine_131 : decode cX9_tellLine 131 = .ok (.iaload, 1) := by decide +kernel
theorem dX9_tellLine_132 : decode cX9_tellLine 132 = .ok (.iconst (-1), 1) := by decide +kernel
theorem dX9_tellLine_133 : decode cX9_tellLine 133 = .ok (.if_icmp .ne 7, 3) := by decide +kernel
theorem dX9_tellLine_136 : decode cX9_tellLine 136 = .ok (.iconst 0, 1) := by decide +kernel
theorem dX9_tellLine_137 : decode cX9_tellLine 137 = .ok (.goto 4, 3) := by decide +kernel
theorem dX9_tellLine_140 : decode cX9_tellLine 140 = .ok (.iconst 1, 1) := by decide +kernel
theorem dX9_tellLine_141 : decode cX9_tellLine 141 = .ok (.ireturn, 1) := by decide +kernel
theorem dX9_tellLine_142 : decode cX9_tellLine 142 = .ok (.bipush (-102), 2) := by decide +kernel
theorem dX9_tellLine_144 : decode cX9_tellLine 144 = .ok (.ireturn, 1) := by decide +kernel
theorem dX9_line_0 : decode cX9_line 0 = .ok (.aload_n 0, 1) := by decide +kernel
theorem dX9_line_1 : decode cX9_line 1 = .ok (.iload_n 1, 1) := by decide +kernel
theorem dX9_line_2 : decode cX9_line 2 = .ok (.iload_n 2, 1) := by decide +kernel
theorem dX9_line_3 : decode cX9_line 3 = .ok (.invokevirtual 191, 3) := by decide +kernel
theorem dX9_line_6 : decode cX9_line 6 = .ok (.ifCond .eq 13, 3) := by decide +kernel
theorem dX9_line_9 : decode cX9_line 9 = .ok (.aload_n 0, 1) := by decide +kernel
theorem dX9_line_10 : decode cX9_line 10 = .ok (.iload_n 1, 1) := by decide +kernel
theorem dX9_line_11 : decode cX9_line 11 = .ok (.iload_n 2, 1) := by decide +kernel
theorem dX9_line_12 : decode cX9_line 12 = .ok (.iload_n 3, 1) := by decide +kernel
theorem dX9_line_13 : decode cX9_line 13 = .ok (.invokevirtual 233, 3) := by decide +kernel
theorem dX9_line_16 : decode cX9_line 16 = .ok (.goto 5, 3) := by decide +kernel
theorem dX9_line_19 : decode cX9_line 19 = .ok (.bipush (-101), 2) := by decide +kernel
theorem dX9_line_21 : decode cX9_line 21 = .ok (.ireturn, 1) := by decide +kernel
theorem dX9_rackedOf_0 : decode cX9_rackedOf 0 = .ok (.iconst 0, 1) := by decide +kernel
theorem dX9_rackedOf_1 : decode cX9_rackedOf 1 = .ok (.istore_n 2, 1) := by decide +kernel
theorem dX9_rackedOf_2 : decode cX9_rackedOf 2 = .ok (.iload_n 2, 1) := by decide +kernel
theorem dX9_rackedOf_3 : decode cX9_rackedOf 3 = .ok (.iconst 3, 1) := by decide +kernel
theorem dX9_rackedOf_4 : decode cX9_rackedOf 4 = .ok (.if_icmp .ge 23, 3) := by decide +kernel
theorem dX9_rackedOf_7 : decode cX9_rackedOf 7 = .ok (.aload_n 0, 1) := by decide +kernel
theorem dX9_rackedOf_8 : decode cX9_rackedOf 8 = .ok (.getfield 52, 3) := by decide +kernel
theorem dX9_rackedOf_11 : decode cX9_rackedOf 11 = .ok (.iconst 3, 1) := by decide +kernel
theorem dX9_rackedOf_12 : decode cX9_rackedOf 12 = .ok (.iload_n 1, 1) := by decide +kernel
theorem dX9_rackedOf_13 : decode cX9_rackedOf 13 = .ok (.imul, 1) := by decide +kernel
theorem dX9_rackedOf_14 : decode cX9_rackedOf 14 = .ok (.iload_n 2, 1) := by decide +kernel
theorem dX9_rackedOf_15 : decode cX9_rackedOf 15 = .ok (.iadd, 1) := by decide +kernel
theorem dX9_rackedOf_16 : decode cX9_rackedOf 16 = .ok (.iaload, 1) := by decide +kernel
theorem dX9_rackedOf_17 : decode cX9_rackedOf 17 = .ok (.iconst (-1), 1) := by decide +kernel
theorem dX9_rackedOf_18 : decode cX9_rackedOf 18 = .ok (.if_icmp .eq 9, 3) := by decide +kernel
theorem dX9_rackedOf_21 : decode cX9_rackedOf 21 = .ok (.iinc 2 1, 3) := by decide +kernel
theorem dX9_rackedOf_24 : decode cX9_rackedOf 24 = .ok (.goto (-22), 3) := by decide +kernel
theorem dX9_rackedOf_27 : decode cX9_rackedOf 27 = .ok (.iload_n 2, 1) := by decide +kernel
theorem dX9_rackedOf_28 : decode cX9_rackedOf 28 = .ok (.ireturn, 1) := by decide +kernel
theorem dX9_isOf_0 : decode cX9_isOf 0 = .ok (.iload_n 1, 1) := by decide +kernel
theorem dX9_isOf_1 : decode cX9_isOf 1 = .ok (.ifCond .eq 28, 3) := by decide +kernel
theorem dX9_isOf_4 : decode cX9_isOf 4 = .ok (.iload_n 0, 1) := by decide +kernel
theorem dX9_isOf_5 : decode cX9_isOf 5 = .ok (.iload_n 1, 1) := by decide +kernel
theorem dX9_isOf_6 : decode cX9_isOf 6 = .ok (.if_icmp .eq 23, 3) := by decide +kernel
theorem dX9_isOf_9 : decode cX9_isOf 9 = .ok (.iload_n 1, 1) := by decide +kernel
theorem dX9_isOf_10 : decode cX9_isOf 10 = .ok (.iconst 2, 1) := by decide +kernel
theorem dX9_isOf_11 : decode cX9_isOf 11 = .ok (.if_icmp .ne 8, 3) := by decide +kernel
theorem dX9_isOf_14 : decode cX9_isOf 14 = .ok (.iload_n 0, 1) := by decide +kernel
theorem dX9_isOf_15 : decode cX9_isOf 15 = .ok (.iconst 2, 1) := by decide +kernel
theorem dX9_isOf_16 : decode cX9_isOf 16 = .ok (.if_icmp .gt 13, 3) := by decide +kernel
theorem dX9_isOf_19 : decode cX9_isOf 19 = .ok (.iload_n 1, 1) := by decide +kernel
theorem dX9_isOf_20 : decode cX9_isOf 20 = .ok (.iconst 3, 1) := by decide +kernel
theorem dX9_isOf_21 : decode cX9_isOf 21 = .ok (.if_icmp .ne 12, 3) := by decide +kernel
theorem dX9_isOf_24 : decode cX9_isOf 24 = .ok (.iload_n 0, 1) := by decide +kernel
theorem dX9_isOf_25 : decode cX9_isOf 25 = .ok (.iconst 4, 1) := by decide +kernel
theorem dX9_isOf_26 : decode cX9_isOf 26 = .ok (.if_icmp .ne 7, 3) := by decide +kernel
theorem dX9_isOf_29 : decode cX9_isOf 29 = .ok (.iconst 1, 1) := by decide +kernel
theorem dX9_isOf_30 : decode cX9_isOf 30 = .ok (.goto 4, 3) := by decide +kernel
theorem dX9_isOf_33 : decode cX9_isOf 33 = .ok (.iconst 0, 1) := by decide +kernel
theorem dX9_isOf_34 : decode cX9_isOf 34 = .ok (.ireturn, 1) := by decide +kernel
theorem dX9_rack_0 : decode cX9_rack 0 = .ok (.aload_n 0, 1) := by decide +kernel
theorem dX9_rack_1 : decode cX9_rack 1 = .ok (.iload_n 1, 1) := by decide +kernel
theorem dX9_rack_2 : decode cX9_rack 2 = .ok (.invokevirtual 225, 3) := by decide +kernel
theorem dX9_rack_5 : decode cX9_rack 5 = .ok (.ifCond .ne 6, 3) := by decide +kernel
theorem dX9_rack_8 : decode cX9_rack 8 = .ok (.bipush (-101), 2) := by decide +kernel
theorem dX9_rack_10 : decode cX9_rack 10 = .ok (.ireturn, 1) := by decide +kernel
theorem dX9_rack_11 : decode cX9_rack 11 = .ok (.iload_n 2, 1) := by decide +kernel
theorem dX9_rack_12 : decode cX9_rack 12 = .ok (.i2l, 1) := by decide +kernel
theorem dX9_rack_13 : decode cX9_rack 13 = .ok (.lconst 0, 1) := by decide +kernel
theorem dX9_rack_14 : decode cX9_rack 14 = .ok (.ldc2_w 228, 3) := by decide +kernel
theorem dX9_rack_17 : decode cX9_rack 17 = .ok (.invokestatic 73, 3) := by decide +kernel
theorem dX9_rack_20 : decode cX9_rack 20 = .ok (.ifCond .ne 6, 3) := by decide +kernel
theorem dX9_rack_23 : decode cX9_rack 23 = .ok (.bipush (-102), 2) := by decide +kernel
theorem dX9_rack_25 : decode cX9_rack 25 = .ok (.ireturn, 1) := by decide +kernel
theorem dX9_rack_26 : decode cX9_rack 26 = .ok (.aload_n 0, 1) := by decide +kernel
theorem dX9_rack_27 : decode cX9_rack 27 = .ok (.iload_n 2, 1) := by decide +kernel
theorem dX9_rack_28 : decode cX9_rack 28 = .ok (.invokevirtual 236, 3) := by decide +kernel
theorem dX9_rack_31 : decode cX9_rack 31 = .ok (.istore_n 3, 1) := by decide +kernel
theorem dX9_rack_32 : decode cX9_rack 32 = .ok (.iload_n 3, 1) := by decide +kernel
theorem dX9_rack_33 : decode cX9_rack 33 = .ok (.iconst 3, 1) := by decide +kernel
theorem dX9_rack_34 : decode cX9_rack 34 = .ok (.if_icmp .ne 6, 3) := by decide +kernel
theorem dX9_rack_37 : decode cX9_rack 37 = .ok (.bipush (-104), 2) := by decide +kernel
theorem dX9_rack_39 : decode cX9_rack 39 = .ok (.ireturn, 1) := by decide +kernel
theorem dX9_rack_40 : decode cX9_rack 40 = .ok (.aload_n 0, 1) := by decide +kernel
theorem dX9_rack_41 : decode cX9_rack 41 = .ok (.getfield 46, 3) := by decide +kernel
theorem dX9_rack_44 : decode cX9_rack 44 = .ok (.iconst 5, 1) := by decide +kernel
theorem dX9_rack_45 : decode cX9_rack 45 = .ok (.iload_n 1, 1) := by decide +kernel
theorem dX9_rack_46 : decode cX9_rack 46 = .ok (.imul, 1) := by decide +kernel
theorem dX9_rack_47 : decode cX9_rack 47 = .ok (.iaload, 1) := by decide +kernel
theorem dX9_rack_48 : decode cX9_rack 48 = .ok (.iload_n 2, 1) := by decide +kernel
theorem dX9_rack_49 : decode cX9_rack 49 = .ok (.invokestatic 239, 3) := by decide +kernel
theorem dX9_rack_52 : decode cX9_rack 52 = .ok (.ifCond .ne 5, 3) := by decide +kernel
theorem dX9_rack_55 : decode cX9_rack 55 = .ok (.iconst (-1), 1) := by decide +kernel
theorem dX9_rack_56 : decode cX9_rack 56 = .ok (.ireturn, 1) := by decide +kernel
theorem dX9_rack_57 : decode cX9_rack 57 = .ok (.aload_n 0, 1) := by decide +kernel
theorem dX9_rack_58 : decode cX9_rack 58 = .ok (.getfield 52, 3) := by decide +kernel
theorem dX9_rack_61 : decode cX9_rack 61 = .ok (.iconst 3, 1) := by decide +kernel
theorem dX9_rack_62 : decode cX9_rack 62 = .ok (.iload_n 2, 1) := by decide +kernel
theorem dX9_rack_63 : decode cX9_rack 63 = .ok (.imul, 1) := by decide +kernel
theorem dX9_rack_64 : decode cX9_rack 64 = .ok (.iload_n 3, 1) := by decide +kernel
theorem dX9_rack_65 : decode cX9_rack 65 = .ok (.iadd, 1) := by decide +kernel
theorem dX9_rack_66 : decode cX9_rack 66 = .ok (.iload_n 1, 1) := by decide +kernel
theorem dX9_rack_67 : decode cX9_rack 67 = .ok (.iastore, 1) := by decide +kernel
theorem dX9_rack_68 : decode cX9_rack 68 = .ok (.iload_n 3, 1) := by decide +kernel
theorem dX9_rack_69 : decode cX9_rack 69 = .ok (.iconst 1, 1) := by decide +kernel
theorem dX9_rack_70 : decode cX9_rack 70 = .ok (.iadd, 1) := by decide +kernel
theorem dX9_rack_71 : decode cX9_rack 71 = .ok (.ireturn, 1) := by decide +kernel
theorem dX9_racked_0 : decode cX9_racked 0 = .ok (.iload_n 1, 1) := by decide +kernel
theorem dX9_racked_1 : decode cX9_racked 1 = .ok (.i2l, 1) := by decide +kernel
theorem dX9_racked_2 : decode cX9_racked 2 = .ok (.lconst 0, 1) := by decide +kernel
theorem dX9_racked_3 : decode cX9_racked 3 = .ok (.ldc2_w 228, 3) := by decide +kernel
theorem dX9_racked_6 : decode cX9_racked 6 = .ok (.invokestatic 73, 3) := by decide +kernel
theorem dX9_racked_9 : decode cX9_racked 9 = .ok (.ifCond .eq 28, 3) := by decide +kernel
theorem dX9_racked_12 : decode cX9_racked 12 = .ok (.iload_n 2, 1) := by decide +kernel
theorem dX9_racked_13 : decode cX9_racked 13 = .ok (.i2l, 1) := by decide +kernel
theorem dX9_racked_14 : decode cX9_racked 14 = .ok (.lconst 0, 1) := by decide +kernel
theorem dX9_racked_15 : decode cX9_racked 15 = .ok (.ldc2_w 175, 3) := by decide +kernel
theorem dX9_racked_18 : decode cX9_racked 18 = .ok (.invokestatic 73, 3) := by decide +kernel
theorem dX9_racked_21 : decode cX9_racked 21 = .ok (.ifCond .eq 16, 3) := by decide +kernel
theorem dX9_racked_24 : decode cX9_racked 24 = .ok (.aload_n 0, 1) := by decide +kernel
theorem dX9_racked_25 : decode cX9_racked 25 = .ok (.getfield 52, 3) := by decide +kernel
theorem dX9_racked_28 : decode cX9_racked 28 = .ok (.iconst 3, 1) := by decide +kernel
theorem dX9_racked_29 : decode cX9_racked 29 = .ok (.iload_n 1, 1) := by decide +kernel
theorem dX9_racked_30 : decode cX9_racked 30 = .ok (.imul, 1) := by decide +kernel
theorem dX9_racked_31 : decode cX9_racked 31 = .ok (.iload_n 2, 1) := by decide +kernel
theorem dX9_racked_32 : decode cX9_racked 32 = .ok (.iadd, 1) := by decide +kernel
theorem dX9_racked_33 : decode cX9_racked 33 = .ok (.iaload, 1) := by decide +kernel
theorem dX9_racked_34 : decode cX9_racked 34 = .ok (.goto 5, 3) := by decide +kernel
theorem dX9_racked_37 : decode cX9_racked 37 = .ok (.bipush (-102), 2) := by decide +kernel
theorem dX9_racked_39 : decode cX9_racked 39 = .ok (.ireturn, 1) := by decide +kernel
theorem dX9_isLetters_0 : decode cX9_isLetters 0 = .ok (.iload_n 0, 1) := by decide +kernel
theorem dX9_isLetters_1 : decode cX9_isLetters 1 = .ok (.ifCond .le 13, 3) := by decide +kernel
theorem dX9_isLetters_4 : decode cX9_isLetters 4 = .ok (.iload_n 0, 1) := by decide +kernel
theorem dX9_isLetters_5 : decode cX9_isLetters 5 = .ok (.ldc 242, 2) := by decide +kernel
theorem dX9_isLetters_7 : decode cX9_isLetters 7 = .ok (.if_icmp .ge 7, 3) := by decide +kernel
theorem dX9_isLetters_10 : decode cX9_isLetters 10 = .ok (.iconst 1, 1) := by decide +kernel
theorem dX9_isLetters_11 : decode cX9_isLetters 11 = .ok (.goto 4, 3) := by decide +kernel
theorem dX9_isLetters_14 : decode cX9_isLetters 14 = .ok (.iconst 0, 1) := by decide +kernel
theorem dX9_isLetters_15 : decode cX9_isLetters 15 = .ok (.istore_n 1, 1) := by decide +kernel
theorem dX9_isLetters_16 : decode cX9_isLetters 16 = .ok (.iload_n 0, 1) := by decide +kernel
theorem dX9_isLetters_17 : decode cX9_isLetters 17 = .ok (.istore_n 2, 1) := by decide +kernel
theorem dX9_isLetters_18 : decode cX9_isLetters 18 = .ok (.iload_n 1, 1) := by decide +kernel
theorem dX9_isLetters_19 : decode cX9_isLetters 19 = .ok (.ifCond .eq 32, 3) := by decide +kernel
theorem dX9_isLetters_22 : decode cX9_isLetters 22 = .ok (.iload_n 2, 1) := by decide +kernel
theorem dX9_isLetters_23 : decode cX9_isLetters 23 = .ok (.ifCond .le 28, 3) := by decide +kernel
theorem dX9_isLetters_26 : decode cX9_isLetters 26 = .ok (.iload_n 2, 1) := by decide +kernel
theorem dX9_isLetters_27 : decode cX9_isLetters 27 = .ok (.sipush 128, 3) := by decide +kernel
theorem dX9_isLetters_30 : decode cX9_isLetters 30 = .ok (.irem, 1) := by decide +kernel
theorem dX9_isLetters_31 : decode cX9_isLetters 31 = .ok (.i2l, 1) := by decide +kernel
theorem dX9_isLetters_32 : decode cX9_isLetters 32 = .ok (.ldc2_w 80, 3) := by decide +kernel
theorem dX9_isLetters_35 : decode cX9_isLetters 35 = .ok (.ldc2_w 82, 3) := by decide +kernel
theorem dX9_isLetters_38 : decode cX9_isLetters 38 = .ok (.invokestatic 73, 3) := by decide +kernel
theorem dX9_isLetters_41 : decode cX9_isLetters 41 = .ok (.istore_n 1, 1) := by decide +kernel
theorem dX9_isLetters_42 : decode cX9_isLetters 42 = .ok (.iload_n 2, 1) := by decide +kernel
theorem dX9_isLetters_43 : decode cX9_isLetters 43 = .ok (.sipush 128, 3) := by decide +kernel
theorem dX9_isLetters_46 : decode cX9_isLetters 46 = .ok (.idiv, 1) := by decide +kernel
theorem dX9_isLetters_47 : decode cX9_isLetters 47 = .ok (.istore_n 2, 1) := by decide +kernel
theorem dX9_isLetters_48 : decode cX9_isLetters 48 = .ok (.goto (-30), 3) := by decide +kernel
theorem dX9_isLetters_51 : decode cX9_isLetters 51 = .ok (.iload_n 1, 1) := by decide +kernel
theorem dX9_isLetters_52 : decode cX9_isLetters 52 = .ok (.ireturn, 1) := by decide +kernel
theorem dX9_insert_0 : decode cX9_insert 0 = .ok (.aload_n 0, 1) := by decide +kernel
theorem dX9_insert_1 : decode cX9_insert 1 = .ok (.getfield 22, 3) := by decide +kernel
theorem dX9_insert_4 : decode cX9_insert 4 = .ok (.iload_n 1, 1) := by decide +kernel
theorem dX9_insert_5 : decode cX9_insert 5 = .ok (.iaload, 1) := by decide +kernel
theorem dX9_insert_6 : decode cX9_insert 6 = .ok (.istore 4, 2) := by decide +kernel
theorem dX9_insert_8 : decode cX9_insert 8 = .ok (.iload 4, 2) := by decide +kernel
theorem dX9_insert_10 : decode cX9_insert 10 = .ok (.iload_n 2, 1) := by decide +kernel
theorem dX9_insert_11 : decode cX9_insert 11 = .ok (.if_icmp .le 35, 3) := by decide +kernel
theorem dX9_insert_14 : decode cX9_insert 14 = .ok (.aload_n 0, 1) := by decide +kernel
theorem dX9_insert_15 : decode cX9_insert 15 = .ok (.getfield 19, 3) := by decide +kernel
theorem dX9_insert_18 : decode cX9_insert 18 = .ok (.bipush 16, 2) := by decide +kernel
theorem dX9_insert_20 : decode cX9_insert 20 = .ok (.iload_n 1, 1) := by decide +kernel
theorem dX9_insert_21 : decode cX9_insert 21 = .ok (.imul, 1) := by decide +kernel
theorem dX9_insert_22 : decode cX9_insert 22 = .ok (.iload 4, 2) := by decide +kernel
theorem dX9_insert_24 : decode cX9_insert 24 = .ok (.iadd, 1) := by decide +kernel
theorem dX9_insert_25 : decode cX9_insert 25 = .ok (.aload_n 0, 1) := by decide +kernel
theorem dX9_insert_26 : decode cX9_insert 26 = .ok (.getfield 19, 3) := by decide +kernel
theorem dX9_insert_29 : decode cX9_insert 29 = .ok (.bipush 16, 2) := by decide +kernel
theorem dX9_insert_31 : decode cX9_insert 31 = .ok (.iload_n 1, 1) := by decide +kernel
theorem dX9_insert_32 : decode cX9_insert 32 = .ok (.imul, 1) := by decide +kernel
theorem dX9_insert_33 : decode cX9_insert 33 = .ok (.iload 4, 2) := by decide +kernel
theorem dX9_insert_35 : decode cX9_insert 35 = .ok (.iadd, 1) := by decide +kernel
theorem dX9_insert_36 : decode cX9_insert 36 = .ok (.iconst 1, 1) := by decide +kernel
theorem dX9_insert_37 : decode cX9_insert 37 = .ok (.isub, 1) := by decide +kernel
theorem dX9_insert_38 : decode cX9_insert 38 = .ok (.iaload, 1) := by decide +kernel
theorem dX9_insert_39 : decode cX9_insert 39 = .ok (.iastore, 1) := by decide +kernel
theorem dX9_insert_40 : decode cX9_insert 40 = .ok (.iinc 4 (-1), 3) := by decide +kernel
theorem dX9_insert_43 : decode cX9_insert 43 = .ok (.goto (-35), 3) := by decide +kernel
theorem dX9_insert_46 : decode cX9_insert 46 = .ok (.aload_n 0, 1) := by decide +kernel
theorem dX9_insert_47 : decode cX9_insert 47 = .ok (.getfield 19, 3) := by decide +kernel
theorem dX9_insert_50 : decode cX9_insert 50 = .ok (.bipush 16, 2) := by decide +kernel
theorem dX9_insert_52 : decode cX9_insert 52 = .ok (.iload_n 1, 1) := by decide +kernel
theorem dX9_insert_53 : decode cX9_insert 53 = .ok (.imul, 1) := by decide +kernel
theorem dX9_insert_54 : decode cX9_insert 54 = .ok (.iload_n 2, 1) := by decide +kernel
theorem dX9_insert_55 : decode cX9_insert 55 = .ok (.iadd, 1) := by decide +kernel
theorem dX9_insert_56 : decode cX9_insert 56 = .ok (.iload_n 3, 1) := by decide +kernel
theorem dX9_insert_57 : decode cX9_insert 57 = .ok (.iastore, 1) := by decide +kernel
theorem dX9_insert_58 : decode cX9_insert 58 = .ok (.aload_n 0, 1) := by decide +kernel
theorem dX9_insert_59 : decode cX9_insert 59 = .ok (.getfield 22, 3) := by decide +kernel
theorem dX9_insert_62 : decode cX9_insert 62 = .ok (.iload_n 1, 1) := by decide +kernel
theorem dX9_insert_63 : decode cX9_insert 63 = .ok (.dup2, 1) := by decide +kernel
theorem dX9_insert_64 : decode cX9_insert 64 = .ok (.iaload, 1) := by decide +kernel
theorem dX9_insert_65 : decode cX9_insert 65 = .ok (.iconst 1, 1) := by decide +kernel
theorem dX9_insert_66 : decode cX9_insert 66 = .ok (.iadd, 1) := by decide +kernel
theorem dX9_insert_67 : decode cX9_insert 67 = .ok (.iastore, 1) := by decide +kernel
theorem dX9_insert_68 : decode cX9_insert 68 = .ok (.return_, 1) := by decide +kernel
theorem dX9_remove_0 : decode cX9_remove 0 = .ok (.iload_n 2, 1) := by decide +kernel
theorem dX9_remove_1 : decode cX9_remove 1 = .ok (.istore_n 3, 1) := by decide +kernel
theorem dX9_remove_2 : decode cX9_remove 2 = .ok (.iload_n 3, 1) := by decide +kernel
theorem dX9_remove_3 : decode cX9_remove 3 = .ok (.aload_n 0, 1) := by decide +kernel
theorem dX9_remove_4 : decode cX9_remove 4 = .ok (.getfield 22, 3) := by decide +kernel
theorem dX9_remove_7 : decode cX9_remove 7 = .ok (.iload_n 1, 1) := by decide +kernel
theorem dX9_remove_8 : decode cX9_remove 8 = .ok (.iaload, 1) := by decide +kernel
theorem dX9_remove_9 : decode cX9_remove 9 = .ok (.iconst 1, 1) := by decide +kernel
theorem dX9_remove_10 : decode cX9_remove 10 = .ok (.isub, 1) := by decide +kernel
theorem dX9_remove_11 : decode cX9_remove 11 = .ok (.if_icmp .ge 33, 3) := by decide +kernel
theorem dX9_remove_14 : decode cX9_remove 14 = .ok (.aload_n 0, 1) := by decide +kernel
theorem dX9_remove_15 : decode cX9_remove 15 = .ok (.getfield 19, 3) := by decide +kernel
theorem dX9_remove_18 : decode cX9_remove 18 = .ok (.bipush 16, 2) := by decide +kernel
theorem dX9_remove_20 : decode cX9_remove 20 = .ok (.iload_n 1, 1) := by decide +kernel
theorem dX9_remove_21 : decode cX9_remove 21 = .ok (.imul, 1) := by decide +kernel
theorem dX9_remove_22 : decode cX9_remove 22 = .ok (.iload_n 3, 1) := by decide +kernel
theorem dX9_remove_23 : decode cX9_remove 23 = .ok (.iadd, 1) := by decide +kernel
theorem dX9_remove_24 : decode cX9_remove 24 = .ok (.aload_n 0, 1) := by decide +kernel
theorem dX9_remove_25 : decode cX9_remove 25 = .ok (.getfield 19, 3) := by decide +kernel
theorem dX9_remove_28 : decode cX9_remove 28 = .ok (.bipush 16, 2) := by decide +kernel
theorem dX9_remove_30 : decode cX9_remove 30 = .ok (.iload_n 1, 1) := by decide +kernel
theorem dX9_remove_31 : decode cX9_remove 31 = .ok (.imul, 1) := by decide +kernel
theorem dX9_remove_32 : decode cX9_remove 32 = .ok (.iload_n 3, 1) := by decide +kernel
theorem dX9_remove_33 : decode cX9_remove 33 = .ok (.iadd, 1) := by decide +kernel
theorem dX9_remove_34 : decode cX9_remove 34 = .ok (.iconst 1, 1) := by decide +kernel
theorem dX9_remove_35 : decode cX9_remove 35 = .ok (.iadd, 1) := by decide +kernel
theorem dX9_remove_36 : decode cX9_remove 36 = .ok (.iaload, 1) := by decide +kernel
theorem dX9_remove_37 : decode cX9_remove 37 = .ok (.iastore, 1) := by decide +kernel
theorem dX9_remove_38 : decode cX9_remove 38 = .ok (.iinc 3 1, 3) := by decide +kernel
theorem dX9_remove_41 : decode cX9_remove 41 = .ok (.goto (-39), 3) := by decide +kernel
theorem dX9_remove_44 : decode cX9_remove 44 = .ok (.aload_n 0, 1) := by decide +kernel
theorem dX9_remove_45 : decode cX9_remove 45 = .ok (.getfield 22, 3) := by decide +kernel
theorem dX9_remove_48 : decode cX9_remove 48 = .ok (.iload_n 1, 1) := by decide +kernel
theorem dX9_remove_49 : decode cX9_remove 49 = .ok (.dup2, 1) := by decide +kernel
theorem dX9_remove_50 : decode cX9_remove 50 = .ok (.iaload, 1) := by decide +kernel
theorem dX9_remove_51 : decode cX9_remove 51 = .ok (.iconst 1, 1) := by decide +kernel
theorem dX9_remove_52 : decode cX9_remove 52 = .ok (.isub, 1) := by decide +kernel
theorem dX9_remove_53 : decode cX9_remove 53 = .ok (.iastore, 1) := by decide +kernel
theorem dX9_remove_54 : decode cX9_remove 54 = .ok (.return_, 1) := by decide +kernel
theorem dX9_put_0 : decode cX9_put 0 = .ok (.iload_n 1, 1) := by decide +kernel
theorem dX9_put_1 : decode cX9_put 1 = .ok (.invokestatic 115, 3) := by decide +kernel
theorem dX9_put_4 : decode cX9_put 4 = .ok (.ifCond .eq 19, 3) := by decide +kernel
theorem dX9_put_7 : decode cX9_put 7 = .ok (.iload_n 2, 1) := by decide +kernel
theorem dX9_put_8 : decode cX9_put 8 = .ok (.i2l, 1) := by decide +kernel
theorem dX9_put_9 : decode cX9_put 9 = .ok (.lconst 0, 1) := by decide +kernel
theorem dX9_put_10 : decode cX9_put 10 = .ok (.aload_n 0, 1) := by decide +kernel
theorem dX9_put_11 : decode cX9_put 11 = .ok (.getfield 22, 3) := by decide +kernel
theorem dX9_put_14 : decode cX9_put 14 = .ok (.iload_n 1, 1) := by decide +kernel
theorem dX9_put_15 : decode cX9_put 15 = .ok (.iaload, 1) := by decide +kernel
theorem dX9_put_16 : decode cX9_put 16 = .ok (.i2l, 1) := by decide +kernel
theorem dX9_put_17 : decode cX9_put 17 = .ok (.invokestatic 73, 3) := by decide +kernel
theorem dX9_put_20 : decode cX9_put 20 = .ok (.ifCond .ne 6, 3) := by decide +kernel
theorem dX9_put_23 : decode cX9_put 23 = .ok (.bipush (-101), 2) := by decide +kernel
theorem dX9_put_25 : decode cX9_put 25 = .ok (.ireturn, 1) := by decide +kernel
theorem dX9_put_26 : decode cX9_put 26 = .ok (.iload_n 3, 1) := by decide +kernel
theorem dX9_put_27 : decode cX9_put 27 = .ok (.invokestatic 243, 3) := by decide +kernel
theorem dX9_put_30 : decode cX9_put 30 = .ok (.ifCond .ne 6, 3) := by decide +kernel
theorem dX9_put_33 : decode cX9_put 33 = .ok (.bipush (-102), 2) := by decide +kernel
theorem dX9_put_35 : decode cX9_put 35 = .ok (.ireturn, 1) := by decide +kernel
theorem dX9_put_36 : decode cX9_put 36 = .ok (.aload_n 0, 1) := by decide +kernel
theorem dX9_put_37 : decode cX9_put 37 = .ok (.getfield 106, 3) := by decide +kernel
theorem dX9_put_40 : decode cX9_put 40 = .ok (.ifCond .ne 6, 3) := by decide +kernel
theorem dX9_put_43 : decode cX9_put 43 = .ok (.bipush (-103), 2) := by decide +kernel
theorem dX9_put_45 : decode cX9_put 45 = .ok (.ireturn, 1) := by decide +kernel
theorem dX9_put_46 : decode cX9_put 46 = .ok (.aload_n 0, 1) := by decide +kernel
theorem dX9_put_47 : decode cX9_put 47 = .ok (.getfield 22, 3) := by decide +kernel
theorem dX9_put_50 : decode cX9_put 50 = .ok (.iload_n 1, 1) := by decide +kernel
theorem dX9_put_51 : decode cX9_put 51 = .ok (.iaload, 1) := by decide +kernel
theorem dX9_put_52 : decode cX9_put 52 = .ok (.bipush 8, 2) := by decide +kernel
theorem dX9_put_54 : decode cX9_put 54 = .ok (.if_icmp .ne 6, 3) := by decide +kernel
theorem dX9_put_57 : decode cX9_put 57 = .ok (.bipush (-104), 2) := by decide +kernel
theorem dX9_put_59 : decode cX9_put 59 = .ok (.ireturn, 1) := by decide +kernel
theorem dX9_put_60 : decode cX9_put 60 = .ok (.aload_n 0, 1) := by decide +kernel
theorem dX9_put_61 : decode cX9_put 61 = .ok (.iload_n 1, 1) := by decide +kernel
theorem dX9_put_62 : decode cX9_put 62 = .ok (.iload_n 2, 1) := by decide +kernel
theorem dX9_put_63 : decode cX9_put 63 = .ok (.iload_n 3, 1) := by decide +kernel
theorem dX9_put_64 : decode cX9_put 64 = .ok (.invokevirtual 246, 3) := by decide +kernel
theorem dX9_put_67 : decode cX9_put 67 = .ok (.aload_n 0, 1) := by decide +kernel
theorem dX9_put_68 : decode cX9_put 68 = .ok (.invokevirtual 112, 3) := by decide +kernel
theorem dX9_put_71 : decode cX9_put 71 = .ok (.aload_n 0, 1) := by decide +kernel
theorem dX9_put_72 : decode cX9_put 72 = .ok (.getfield 197, 3) := by decide +kernel
theorem dX9_put_75 : decode cX9_put 75 = .ok (.ireturn, 1) := by decide +kernel
theorem dX9_take_0 : decode cX9_take 0 = .ok (.aload_n 0, 1) := by decide +kernel
theorem dX9_take_1 : decode cX9_take 1 = .ok (.iload_n 1, 1) := by decide +kernel
theorem dX9_take_2 : decode cX9_take 2 = .ok (.iload_n 2, 1) := by decide +kernel
theorem dX9_take_3 : decode cX9_take 3 = .ok (.invokevirtual 191, 3) := by decide +kernel
theorem dX9_take_6 : decode cX9_take 6 = .ok (.ifCond .ne 6, 3) := by decide +kernel
theorem dX9_take_9 : decode cX9_take 9 = .ok (.bipush (-101), 2) := by decide +kernel
theorem dX9_take_11 : decode cX9_take 11 = .ok (.ireturn, 1) := by decide +kernel
theorem dX9_take_12 : decode cX9_take 12 = .ok (.aload_n 0, 1) := by decide +kernel
theorem dX9_take_13 : decode cX9_take 13 = .ok (.iload_n 1, 1) := by decide +kernel
theorem dX9_take_14 : decode cX9_take 14 = .ok (.iload_n 2, 1) := by decide +kernel
theorem dX9_take_15 : decode cX9_take 15 = .ok (.invokevirtual 249, 3) := by decide +kernel
theorem dX9_take_18 : decode cX9_take 18 = .ok (.aload_n 0, 1) := by decide +kernel
theorem dX9_take_19 : decode cX9_take 19 = .ok (.invokevirtual 112, 3) := by decide +kernel
theorem dX9_take_22 : decode cX9_take 22 = .ok (.aload_n 0, 1) := by decide +kernel
theorem dX9_take_23 : decode cX9_take 23 = .ok (.getfield 197, 3) := by decide +kernel
theorem dX9_take_26 : decode cX9_take 26 = .ok (.ireturn, 1) := by decide +kernel
theorem dX9_swap_0 : decode cX9_swap 0 = .ok (.aload_n 0, 1) := by decide +kernel
theorem dX9_swap_1 : decode cX9_swap 1 = .ok (.iload_n 1, 1) := by decide +kernel
theorem dX9_swap_2 : decode cX9_swap 2 = .ok (.iload_n 2, 1) := by decide +kernel
theorem dX9_swap_3 : decode cX9_swap 3 = .ok (.invokevirtual 191, 3) := by decide +kernel
theorem dX9_swap_6 : decode cX9_swap 6 = .ok (.ifCond .eq 17, 3) := by decide +kernel
theorem dX9_swap_9 : decode cX9_swap 9 = .ok (.aload_n 0, 1) := by decide +kernel
theorem dX9_swap_10 : decode cX9_swap 10 = .ok (.iload_n 1, 1) := by decide +kernel
theorem dX9_swap_11 : decode cX9_swap 11 = .ok (.iload_n 3, 1) := by decide +kernel
theorem dX9_swap_12 : decode cX9_swap 12 = .ok (.invokevirtual 191, 3) := by decide +kernel
theorem dX9_swap_15 : decode cX9_swap 15 = .ok (.ifCond .eq 8, 3) := by decide +kernel
theorem dX9_swap_18 : decode cX9_swap 18 = .ok (.iload_n 2, 1) := by decide +kernel
theorem dX9_swap_19 : decode cX9_swap 19 = .ok (.iload_n 3, 1) := by decide +kernel
theorem dX9_swap_20 : decode cX9_swap 20 = .ok (.if_icmp .ne 6, 3) := by decide +kernel
theorem dX9_swap_23 : decode cX9_swap 23 = .ok (.bipush (-101), 2) := by decide +kernel
theorem dX9_swap_25 : decode cX9_swap 25 = .ok (.ireturn, 1) := by decide +kernel
theorem dX9_swap_26 : decode cX9_swap 26 = .ok (.aload_n 0, 1) := by decide +kernel
theorem dX9_swap_27 : decode cX9_swap 27 = .ok (.getfield 19, 3) := by decide +kernel
theorem dX9_swap_30 : decode cX9_swap 30 = .ok (.bipush 16, 2) := by decide +kernel
theorem dX9_swap_32 : decode cX9_swap 32 = .ok (.iload_n 1, 1) := by decide +kernel
theorem dX9_swap_33 : decode cX9_swap 33 = .ok (.imul, 1) := by decide +kernel
theorem dX9_swap_34 : decode cX9_swap 34 = .ok (.iload_n 2, 1) := by decide +kernel
theorem dX9_swap_35 : decode cX9_swap 35 = .ok (.iadd, 1) := by decide +kernel
theorem dX9_swap_36 : decode cX9_swap 36 = .ok (.iaload, 1) := by decide +kernel
theorem dX9_swap_37 : decode cX9_swap 37 = .ok (.istore 4, 2) := by decide +kernel
theorem dX9_swap_39 : decode cX9_swap 39 = .ok (.aload_n 0, 1) := by decide +kernel
theorem dX9_swap_40 : decode cX9_swap 40 = .ok (.getfield 19, 3) := by decide +kernel
theorem dX9_swap_43 : decode cX9_swap 43 = .ok (.bipush 16, 2) := by decide +kernel
theorem dX9_swap_45 : decode cX9_swap 45 = .ok (.iload_n 1, 1) := by decide +kernel
theorem dX9_swap_46 : decode cX9_swap 46 = .ok (.imul, 1) := by decide +kernel
theorem dX9_swap_47 : decode cX9_swap 47 = .ok (.iload_n 2, 1) := by decide +kernel
theorem dX9_swap_48 : decode cX9_swap 48 = .ok (.iadd, 1) := by decide +kernel
theorem dX9_swap_49 : decode cX9_swap 49 = .ok (.aload_n 0, 1) := by decide +kernel
theorem dX9_swap_50 : decode cX9_swap 50 = .ok (.getfield 19, 3) := by decide +kernel
theorem dX9_swap_53 : decode cX9_swap 53 = .ok (.bipush 16, 2) := by decide +kernel
theorem dX9_swap_55 : decode cX9_swap 55 = .ok (.iload_n 1, 1) := by decide +kernel
theorem dX9_swap_56 : decode cX9_swap 56 = .ok (.imul, 1) := by decide +kernel
theorem dX9_swap_57 : decode cX9_swap 57 = .ok (.iload_n 3, 1) := by decide +kernel
theorem dX9_swap_58 : decode cX9_swap 58 = .ok (.iadd, 1) := by decide +kernel
theorem dX9_swap_59 : decode cX9_swap 59 = .ok (.iaload, 1) := by decide +kernel
theorem dX9_swap_60 : decode cX9_swap 60 = .ok (.iastore, 1) := by decide +kernel
theorem dX9_swap_61 : decode cX9_swap 61 = .ok (.aload_n 0, 1) := by decide +kernel
theorem dX9_swap_62 : decode cX9_swap 62 = .ok (.getfield 19, 3) := by decide +kernel
theorem dX9_swap_65 : decode cX9_swap 65 = .ok (.bipush 16, 2) := by decide +kernel
theorem dX9_swap_67 : decode cX9_swap 67 = .ok (.iload_n 1, 1) := by decide +kernel
theorem dX9_swap_68 : decode cX9_swap 68 = .ok (.imul, 1) := by decide +kernel
theorem dX9_swap_69 : decode cX9_swap 69 = .ok (.iload_n 3, 1) := by decide +kernel
theorem dX9_swap_70 : decode cX9_swap 70 = .ok (.iadd, 1) := by decide +kernel
theorem dX9_swap_71 : decode cX9_swap 71 = .ok (.iload 4, 2) := by decide +kernel
theorem dX9_swap_73 : decode cX9_swap 73 = .ok (.iastore, 1) := by decide +kernel
theorem dX9_swap_74 : decode cX9_swap 74 = .ok (.aload_n 0, 1) := by decide +kernel
theorem dX9_swap_75 : decode cX9_swap 75 = .ok (.invokevirtual 112, 3) := by decide +kernel
theorem dX9_swap_78 : decode cX9_swap 78 = .ok (.aload_n 0, 1) := by decide +kernel
theorem dX9_swap_79 : decode cX9_swap 79 = .ok (.getfield 197, 3) := by decide +kernel
theorem dX9_swap_82 : decode cX9_swap 82 = .ok (.ireturn, 1) := by decide +kernel
theorem dX9_turn_0 : decode cX9_turn 0 = .ok (.aload_n 0, 1) := by decide +kernel
theorem dX9_turn_1 : decode cX9_turn 1 = .ok (.getfield 106, 3) := by decide +kernel
theorem dX9_turn_4 : decode cX9_turn 4 = .ok (.ifCond .ne 6, 3) := by decide +kernel
theorem dX9_turn_7 : decode cX9_turn 7 = .ok (.bipush (-103), 2) := by decide +kernel
theorem dX9_turn_9 : decode cX9_turn 9 = .ok (.ireturn, 1) := by decide +kernel
theorem dX9_turn_10 : decode cX9_turn 10 = .ok (.iconst 0, 1) := by decide +kernel
theorem dX9_turn_11 : decode cX9_turn 11 = .ok (.istore_n 1, 1) := by decide +kernel
theorem dX9_turn_12 : decode cX9_turn 12 = .ok (.iload_n 1, 1) := by decide +kernel
theorem dX9_turn_13 : decode cX9_turn 13 = .ok (.bipush 8, 2) := by decide +kernel
theorem dX9_turn_15 : decode cX9_turn 15 = .ok (.if_icmp .ge 41, 3) := by decide +kernel
theorem dX9_turn_18 : decode cX9_turn 18 = .ok (.aload_n 0, 1) := by decide +kernel
theorem dX9_turn_19 : decode cX9_turn 19 = .ok (.getfield 19, 3) := by decide +kernel
theorem dX9_turn_22 : decode cX9_turn 22 = .ok (.iload_n 1, 1) := by decide +kernel
theorem dX9_turn_23 : decode cX9_turn 23 = .ok (.iaload, 1) := by decide +kernel
theorem dX9_turn_24 : decode cX9_turn 24 = .ok (.istore_n 2, 1) := by decide +kernel
theorem dX9_turn_25 : decode cX9_turn 25 = .ok (.aload_n 0, 1) := by decide +kernel
theorem dX9_turn_26 : decode cX9_turn 26 = .ok (.getfield 19, 3) := by decide +kernel
theorem dX9_turn_29 : decode cX9_turn 29 = .ok (.iload_n 1, 1) := by decide +kernel
theorem dX9_turn_30 : decode cX9_turn 30 = .ok (.aload_n 0, 1) := by decide +kernel
theorem dX9_turn_31 : decode cX9_turn 31 = .ok (.getfield 19, 3) := by decide +kernel
theorem dX9_turn_34 : decode cX9_turn 34 = .ok (.bipush 16, 2) := by decide +kernel
theorem dX9_turn_36 : decode cX9_turn 36 = .ok (.iload_n 1, 1) := by decide +kernel
theorem dX9_turn_37 : decode cX9_turn 37 = .ok (.iadd, 1) := by decide +kernel
theorem dX9_turn_38 : decode cX9_turn 38 = .ok (.iaload, 1) := by decide +kernel
theorem dX9_turn_39 : decode cX9_turn 39 = .ok (.iastore, 1) := by decide +kernel
theorem dX9_turn_40 : decode cX9_turn 40 = .ok (.aload_n 0, 1) := by decide +kernel
theorem dX9_turn_41 : decode cX9_turn 41 = .ok (.getfield 19, 3) := by decide +kernel
theorem dX9_turn_44 : decode cX9_turn 44 = .ok (.bipush 16, 2) := by decide +kernel
theorem dX9_turn_46 : decode cX9_turn 46 = .ok (.iload_n 1, 1) := by decide +kernel
theorem dX9_turn_47 : decode cX9_turn 47 = .ok (.iadd, 1) := by decide +kernel
theorem dX9_turn_48 : decode cX9_turn 48 = .ok (.iload_n 2, 1) := by decide +kernel
theorem dX9_turn_49 : decode cX9_turn 49 = .ok (.iastore, 1) := by decide +kernel
theorem dX9_turn_50 : decode cX9_turn 50 = .ok (.iinc 1 1, 3) := by decide +kernel
theorem dX9_turn_53 : decode cX9_turn 53 = .ok (.goto (-41), 3) := by decide +kernel
theorem dX9_turn_56 : decode cX9_turn 56 = .ok (.aload_n 0, 1) := by decide +kernel
theorem dX9_turn_57 : decode cX9_turn 57 = .ok (.getfield 22, 3) := by decide +kernel
theorem dX9_turn_60 : decode cX9_turn 60 = .ok (.iconst 0, 1) := by decide +kernel
theorem dX9_turn_61 : decode cX9_turn 61 = .ok (.iaload, 1) := by decide +kernel
theorem dX9_turn_62 : decode cX9_turn 62 = .ok (.istore_n 1, 1) := by decide +kernel
theorem dX9_turn_63 : decode cX9_turn 63 = .ok (.aload_n 0, 1) := by decide +kernel
theorem dX9_turn_64 : decode cX9_turn 64 = .ok (.getfield 22, 3) := by decide +kernel
theorem dX9_turn_67 : decode cX9_turn 67 = .ok (.iconst 0, 1) := by decide +kernel
theorem dX9_turn_68 : decode cX9_turn 68 = .ok (.aload_n 0, 1) := by decide +kernel
theorem dX9_turn_69 : decode cX9_turn 69 = .ok (.getfield 22, 3) := by decide +kernel
theorem dX9_turn_72 : decode cX9_turn 72 = .ok (.iconst 1, 1) := by decide +kernel
theorem dX9_turn_73 : decode cX9_turn 73 = .ok (.iaload, 1) := by decide +kernel
theorem dX9_turn_74 : decode cX9_turn 74 = .ok (.iastore, 1) := by decide +kernel
theorem dX9_turn_75 : decode cX9_turn 75 = .ok (.aload_n 0, 1) := by decide +kernel
theorem dX9_turn_76 : decode cX9_turn 76 = .ok (.getfield 22, 3) := by decide +kernel
theorem dX9_turn_79 : decode cX9_turn 79 = .ok (.iconst 1, 1) := by decide +kernel
theorem dX9_turn_80 : decode cX9_turn 80 = .ok (.iload_n 1, 1) := by decide +kernel
theorem dX9_turn_81 : decode cX9_turn 81 = .ok (.iastore, 1) := by decide +kernel
theorem dX9_turn_82 : decode cX9_turn 82 = .ok (.aload_n 0, 1) := by decide +kernel
theorem dX9_turn_83 : decode cX9_turn 83 = .ok (.invokevirtual 112, 3) := by decide +kernel
theorem dX9_turn_86 : decode cX9_turn 86 = .ok (.aload_n 0, 1) := by decide +kernel
theorem dX9_turn_87 : decode cX9_turn 87 = .ok (.getfield 197, 3) := by decide +kernel
theorem dX9_turn_90 : decode cX9_turn 90 = .ok (.ireturn, 1) := by decide +kernel
theorem dX9_keptMany_0 : decode cX9_keptMany 0 = .ok (.iconst 0, 1) := by decide +kernel
theorem dX9_keptMany_1 : decode cX9_keptMany 1 = .ok (.istore_n 1, 1) := by decide +kernel
theorem dX9_keptMany_2 : decode cX9_keptMany 2 = .ok (.iconst 0, 1) := by decide +kernel
theorem dX9_keptMany_3 : decode cX9_keptMany 3 = .ok (.istore_n 2, 1) := by decide +kernel
theorem dX9_keptMany_4 : decode cX9_keptMany 4 = .ok (.iload_n 2, 1) := by decide +kernel
theorem dX9_keptMany_5 : decode cX9_keptMany 5 = .ok (.aload_n 0, 1) := by decide +kernel
theorem dX9_keptMany_6 : decode cX9_keptMany 6 = .ok (.getfield 22, 3) := by decide +kernel
theorem dX9_keptMany_9 : decode cX9_keptMany 9 = .ok (.iconst 0, 1) := by decide +kernel
theorem dX9_keptMany_10 : decode cX9_keptMany 10 = .ok (.iaload, 1) := by decide +kernel
theorem dX9_keptMany_11 : decode cX9_keptMany 11 = .ok (.if_icmp .ge 27, 3) := by decide +kernel
theorem dX9_keptMany_14 : decode cX9_keptMany 14 = .ok (.iload_n 1, 1) := by decide +kernel
theorem dX9_keptMany_15 : decode cX9_keptMany 15 = .ok (.aload_n 0, 1) := by decide +kernel
theorem dX9_keptMany_16 : decode cX9_keptMany 16 = .ok (.getfield 25, 3) := by decide +kernel
theorem dX9_keptMany_19 : decode cX9_keptMany 19 = .ok (.iload_n 2, 1) := by decide +kernel
theorem dX9_keptMany_20 : decode cX9_keptMany 20 = .ok (.iaload, 1) := by decide +kernel
theorem dX9_keptMany_21 : decode cX9_keptMany 21 = .ok (.iconst (-1), 1) := by decide +kernel
theorem dX9_keptMany_22 : decode cX9_keptMany 22 = .ok (.if_icmp .ne 7, 3) := by decide +kernel
theorem dX9_keptMany_25 : decode cX9_keptMany 25 = .ok (.iconst 0, 1) := by decide +kernel
theorem dX9_keptMany_26 : decode cX9_keptMany 26 = .ok (.goto 4, 3) := by decide +kernel
theorem dX9_keptMany_29 : decode cX9_keptMany 29 = .ok (.iconst 1, 1) := by decide +kernel
theorem dX9_keptMany_30 : decode cX9_keptMany 30 = .ok (.iadd, 1) := by decide +kernel
theorem dX9_keptMany_31 : decode cX9_keptMany 31 = .ok (.istore_n 1, 1) := by decide +kernel
theorem dX9_keptMany_32 : decode cX9_keptMany 32 = .ok (.iinc 2 1, 3) := by decide +kernel
theorem dX9_keptMany_35 : decode cX9_keptMany 35 = .ok (.goto (-31), 3) := by decide +kernel
theorem dX9_keptMany_38 : decode cX9_keptMany 38 = .ok (.iload_n 1, 1) := by decide +kernel
theorem dX9_keptMany_39 : decode cX9_keptMany 39 = .ok (.ireturn, 1) := by decide +kernel
theorem dX9_costNow_0 : decode cX9_costNow 0 = .ok (.aload_n 0, 1) := by decide +kernel
theorem dX9_costNow_1 : decode cX9_costNow 1 = .ok (.getfield 22, 3) := by decide +kernel
theorem dX9_costNow_4 : decode cX9_costNow 4 = .ok (.iconst 0, 1) := by decide +kernel
theorem dX9_costNow_5 : decode cX9_costNow 5 = .ok (.iaload, 1) := by decide +kernel
theorem dX9_costNow_6 : decode cX9_costNow 6 = .ok (.aload_n 0, 1) := by decide +kernel
theorem dX9_costNow_7 : decode cX9_costNow 7 = .ok (.getfield 22, 3) := by decide +kernel
theorem dX9_costNow_10 : decode cX9_costNow 10 = .ok (.iconst 1, 1) := by decide +kernel
theorem dX9_costNow_11 : decode cX9_costNow 11 = .ok (.iaload, 1) := by decide +kernel
theorem dX9_costNow_12 : decode cX9_costNow 12 = .ok (.iadd, 1) := by decide +kernel
theorem dX9_costNow_13 : decode cX9_costNow 13 = .ok (.iconst 2, 1) := by decide +kernel
theorem dX9_costNow_14 : decode cX9_costNow 14 = .ok (.aload_n 0, 1) := by decide +kernel
theorem dX9_costNow_15 : decode cX9_costNow 15 = .ok (.invokevirtual 252, 3) := by decide +kernel
theorem dX9_costNow_18 : decode cX9_costNow 18 = .ok (.imul, 1) := by decide +kernel
theorem dX9_costNow_19 : decode cX9_costNow 19 = .ok (.isub, 1) := by decide +kernel
theorem dX9_costNow_20 : decode cX9_costNow 20 = .ok (.ireturn, 1) := by decide +kernel
theorem dX9_costOf_0 : decode cX9_costOf 0 = .ok (.iload_n 1, 1) := by decide +kernel
theorem dX9_costOf_1 : decode cX9_costOf 1 = .ok (.tableswitch 87 0 3 #[31, 36, 77, 82], 31) := by decide +kernel
theorem dX9_costOf_32 : decode cX9_costOf 32 = .ok (.aload_n 0, 1) := by decide +kernel
theorem dX9_costOf_33 : decode cX9_costOf 33 = .ok (.invokevirtual 255, 3) := by decide +kernel
theorem dX9_costOf_36 : decode cX9_costOf 36 = .ok (.ireturn, 1) := by decide +kernel
theorem dX9_costOf_37 : decode cX9_costOf 37 = .ok (.aload_n 0, 1) := by decide +kernel
theorem dX9_costOf_38 : decode cX9_costOf 38 = .ok (.iconst 0, 1) := by decide +kernel
theorem dX9_costOf_39 : decode cX9_costOf 39 = .ok (.aload_n 0, 1) := by decide +kernel
theorem dX9_costOf_40 : decode cX9_costOf 40 = .ok (.getfield 22, 3) := by decide +kernel
theorem dX9_costOf_43 : decode cX9_costOf 43 = .ok (.iconst 0, 1) := by decide +kernel
theorem dX9_costOf_44 : decode cX9_costOf 44 = .ok (.iaload, 1) := by decide +kernel
theorem dX9_costOf_45 : decode cX9_costOf 45 = .ok (.iconst 0, 1) := by decide +kernel
theorem dX9_costOf_46 : decode cX9_costOf 46 = .ok (.aload_n 0, 1) := by decide +kernel
theorem dX9_costOf_47 : decode cX9_costOf 47 = .ok (.getfield 22, 3) := by decide +kernel
theorem dX9_costOf_50 : decode cX9_costOf 50 = .ok (.iconst 1, 1) := by decide +kernel
theorem dX9_costOf_51 : decode cX9_costOf 51 = .ok (.iaload, 1) := by decide +kernel
theorem dX9_costOf_52 : decode cX9_costOf 52 = .ok (.invokevirtual 140, 3) := by decide +kernel
theorem dX9_costOf_55 : decode cX9_costOf 55 = .ok (.aload_n 0, 1) := by decide +kernel
theorem dX9_costOf_56 : decode cX9_costOf 56 = .ok (.getfield 22, 3) := by decide +kernel
theorem dX9_costOf_59 : decode cX9_costOf 59 = .ok (.iconst 0, 1) := by decide +kernel
theorem dX9_costOf_60 : decode cX9_costOf 60 = .ok (.iaload, 1) := by decide +kernel
theorem dX9_costOf_61 : decode cX9_costOf 61 = .ok (.aload_n 0, 1) := by decide +kernel
theorem dX9_costOf_62 : decode cX9_costOf 62 = .ok (.getfield 22, 3) := by decide +kernel
theorem dX9_costOf_65 : decode cX9_costOf 65 = .ok (.iconst 1, 1) := by decide +kernel
theorem dX9_costOf_66 : decode cX9_costOf 66 = .ok (.iaload, 1) := by decide +kernel
theorem dX9_costOf_67 : decode cX9_costOf 67 = .ok (.iadd, 1) := by decide +kernel
theorem dX9_costOf_68 : decode cX9_costOf 68 = .ok (.iconst 2, 1) := by decide +kernel
theorem dX9_costOf_69 : decode cX9_costOf 69 = .ok (.aload_n 0, 1) := by decide +kernel
theorem dX9_costOf_70 : decode cX9_costOf 70 = .ok (.getfield 40, 3) := by decide +kernel
theorem dX9_costOf_73 : decode cX9_costOf 73 = .ok (.iconst 0, 1) := by decide +kernel
theorem dX9_costOf_74 : decode cX9_costOf 74 = .ok (.iaload, 1) := by decide +kernel
theorem dX9_costOf_75 : decode cX9_costOf 75 = .ok (.imul, 1) := by decide +kernel
theorem dX9_costOf_76 : decode cX9_costOf 76 = .ok (.isub, 1) := by decide +kernel
theorem dX9_costOf_77 : decode cX9_costOf 77 = .ok (.ireturn, 1) := by decide +kernel
theorem dX9_costOf_78 : decode cX9_costOf 78 = .ok (.aload_n 0, 1) := by decide +kernel
theorem dX9_costOf_79 : decode cX9_costOf 79 = .ok (.getfield 157, 3) := by decide +kernel
theorem dX9_costOf_82 : decode cX9_costOf 82 = .ok (.ireturn, 1) := by decide +kernel
theorem dX9_costOf_83 : decode cX9_costOf 83 = .ok (.aload_n 0, 1) := by decide +kernel
theorem dX9_costOf_84 : decode cX9_costOf 84 = .ok (.getfield 133, 3) := by decide +kernel
theorem dX9_costOf_87 : decode cX9_costOf 87 = .ok (.ireturn, 1) := by decide +kernel
theorem dX9_costOf_88 : decode cX9_costOf 88 = .ok (.aload_n 0, 1) := by decide +kernel
theorem dX9_costOf_89 : decode cX9_costOf 89 = .ok (.getfield 203, 3) := by decide +kernel
theorem dX9_costOf_92 : decode cX9_costOf 92 = .ok (.ireturn, 1) := by decide +kernel
theorem dX9_cost_0 : decode cX9_cost 0 = .ok (.iload_n 1, 1) := by decide +kernel
theorem dX9_cost_1 : decode cX9_cost 1 = .ok (.i2l, 1) := by decide +kernel
theorem dX9_cost_2 : decode cX9_cost 2 = .ok (.lconst 0, 1) := by decide +kernel
theorem dX9_cost_3 : decode cX9_cost 3 = .ok (.ldc2_w 228, 3) := by decide +kernel
theorem dX9_cost_6 : decode cX9_cost 6 = .ok (.invokestatic 73, 3) := by decide +kernel
theorem dX9_cost_9 : decode cX9_cost 9 = .ok (.ifCond .ne 6, 3) := by decide +kernel
theorem dX9_cost_12 : decode cX9_cost 12 = .ok (.bipush (-102), 2) := by decide +kernel
theorem dX9_cost_14 : decode cX9_cost 14 = .ok (.ireturn, 1) := by decide +kernel
theorem dX9_cost_15 : decode cX9_cost 15 = .ok (.aload_n 0, 1) := by decide +kernel
theorem dX9_cost_16 : decode cX9_cost 16 = .ok (.getfield 106, 3) := by decide +kernel
theorem dX9_cost_19 : decode cX9_cost 19 = .ok (.ifCond .eq 11, 3) := by decide +kernel
theorem dX9_cost_22 : decode cX9_cost 22 = .ok (.aload_n 0, 1) := by decide +kernel
theorem dX9_cost_23 : decode cX9_cost 23 = .ok (.iload_n 1, 1) := by decide +kernel
theorem dX9_cost_24 : decode cX9_cost 24 = .ok (.invokevirtual 258, 3) := by decide +kernel
theorem dX9_cost_27 : decode cX9_cost 27 = .ok (.goto 5, 3) := by decide +kernel
theorem dX9_cost_30 : decode cX9_cost 30 = .ok (.bipush (-103), 2) := by decide +kernel
theorem dX9_cost_32 : decode cX9_cost 32 = .ok (.ireturn, 1) := by decide +kernel
theorem dX9_bestOf_0 : decode cX9_bestOf 0 = .ok (.iconst (-1), 1) := by decide +kernel
theorem dX9_bestOf_1 : decode cX9_bestOf 1 = .ok (.istore_n 2, 1) := by decide +kernel
theorem dX9_bestOf_2 : decode cX9_bestOf 2 = .ok (.bipush 99, 2) := by decide +kernel
theorem dX9_bestOf_4 : decode cX9_bestOf 4 = .ok (.istore_n 3, 1) := by decide +kernel
theorem dX9_bestOf_5 : decode cX9_bestOf 5 = .ok (.aload_n 0, 1) := by decide +kernel
theorem dX9_bestOf_6 : decode cX9_bestOf 6 = .ok (.getfield 22, 3) := by decide +kernel
theorem dX9_bestOf_9 : decode cX9_bestOf 9 = .ok (.iconst 1, 1) := by decide +kernel
theorem dX9_bestOf_10 : decode cX9_bestOf 10 = .ok (.iaload, 1) := by decide +kernel
theorem dX9_bestOf_11 : decode cX9_bestOf 11 = .ok (.istore 4, 2) := by decide +kernel
theorem dX9_bestOf_13 : decode cX9_bestOf 13 = .ok (.iconst 0, 1) := by decide +kernel
theorem dX9_bestOf_14 : decode cX9_bestOf 14 = .ok (.istore 5, 2) := by decide +kernel
theorem dX9_bestOf_16 : decode cX9_bestOf 16 = .ok (.iload 5, 2) := by decide +kernel
theorem dX9_bestOf_18 : decode cX9_bestOf 18 = .ok (.iload 4, 2) := by decide +kernel
theorem dX9_bestOf_20 : decode cX9_bestOf 20 = .ok (.if_icmp .gt 60, 3) := by decide +kernel
theorem dX9_bestOf_23 : decode cX9_bestOf 23 = .ok (.aload_n 0, 1) := by decide +kernel
theorem dX9_bestOf_24 : decode cX9_bestOf 24 = .ok (.iconst 1, 1) := by decide +kernel
theorem dX9_bestOf_25 : decode cX9_bestOf 25 = .ok (.iload 5, 2) := by decide +kernel
theorem dX9_bestOf_27 : decode cX9_bestOf 27 = .ok (.iload_n 1, 1) := by decide +kernel
theorem dX9_bestOf_28 : decode cX9_bestOf 28 = .ok (.invokevirtual 246, 3) := by decide +kernel
theorem dX9_bestOf_31 : decode cX9_bestOf 31 = .ok (.aload_n 0, 1) := by decide +kernel
theorem dX9_bestOf_32 : decode cX9_bestOf 32 = .ok (.invokevirtual 209, 3) := by decide +kernel
theorem dX9_bestOf_35 : decode cX9_bestOf 35 = .ok (.aload_n 0, 1) := by decide +kernel
theorem dX9_bestOf_36 : decode cX9_bestOf 36 = .ok (.invokevirtual 255, 3) := by decide +kernel
theorem dX9_bestOf_39 : decode cX9_bestOf 39 = .ok (.iload_n 3, 1) := by decide +kernel
theorem dX9_bestOf_40 : decode cX9_bestOf 40 = .ok (.if_icmp .ge 8, 3) := by decide +kernel
theorem dX9_bestOf_43 : decode cX9_bestOf 43 = .ok (.iload 5, 2) := by decide +kernel
theorem dX9_bestOf_45 : decode cX9_bestOf 45 = .ok (.goto 4, 3) := by decide +kernel
theorem dX9_bestOf_48 : decode cX9_bestOf 48 = .ok (.iload_n 2, 1) := by decide +kernel
theorem dX9_bestOf_49 : decode cX9_bestOf 49 = .ok (.istore_n 2, 1) := by decide +kernel
theorem dX9_bestOf_50 : decode cX9_bestOf 50 = .ok (.aload_n 0, 1) := by decide +kernel
theorem dX9_bestOf_51 : decode cX9_bestOf 51 = .ok (.invokevirtual 255, 3) := by decide +kernel
theorem dX9_bestOf_54 : decode cX9_bestOf 54 = .ok (.iload_n 3, 1) := by decide +kernel
theorem dX9_bestOf_55 : decode cX9_bestOf 55 = .ok (.if_icmp .ge 10, 3) := by decide +kernel
theorem dX9_bestOf_58 : decode cX9_bestOf 58 = .ok (.aload_n 0, 1) := by decide +kernel
theorem dX9_bestOf_59 : decode cX9_bestOf 59 = .ok (.invokevirtual 255, 3) := by decide +kernel
theorem dX9_bestOf_62 : decode cX9_bestOf 62 = .ok (.goto 4, 3) := by decide +kernel
theorem dX9_bestOf_65 : decode cX9_bestOf 65 = .ok (.iload_n 3, 1) := by decide +kernel
theorem dX9_bestOf_66 : decode cX9_bestOf 66 = .ok (.istore_n 3, 1) := by decide +kernel
theorem dX9_bestOf_67 : decode cX9_bestOf 67 = .ok (.aload_n 0, 1) := by decide +kernel
theorem dX9_bestOf_68 : decode cX9_bestOf 68 = .ok (.iconst 1, 1) := by decide +kernel
theorem dX9_bestOf_69 : decode cX9_bestOf 69 = .ok (.iload 5, 2) := by decide +kernel
theorem dX9_bestOf_71 : decode cX9_bestOf 71 = .ok (.invokevirtual 249, 3) := by decide +kernel
theorem dX9_bestOf_74 : decode cX9_bestOf 74 = .ok (.iinc 5 1, 3) := by decide +kernel
theorem dX9_bestOf_77 : decode cX9_bestOf 77 = .ok (.goto (-61), 3) := by decide +kernel
theorem dX9_bestOf_80 : decode cX9_bestOf 80 = .ok (.aload_n 0, 1) := by decide +kernel
theorem dX9_bestOf_81 : decode cX9_bestOf 81 = .ok (.invokevirtual 209, 3) := by decide +kernel
theorem dX9_bestOf_84 : decode cX9_bestOf 84 = .ok (.iload_n 2, 1) := by decide +kernel
theorem dX9_bestOf_85 : decode cX9_bestOf 85 = .ok (.ireturn, 1) := by decide +kernel
theorem dX9_best_0 : decode cX9_best 0 = .ok (.iload_n 1, 1) := by decide +kernel
theorem dX9_best_1 : decode cX9_best 1 = .ok (.invokestatic 243, 3) := by decide +kernel
theorem dX9_best_4 : decode cX9_best 4 = .ok (.ifCond .ne 6, 3) := by decide +kernel
theorem dX9_best_7 : decode cX9_best 7 = .ok (.bipush (-102), 2) := by decide +kernel
theorem dX9_best_9 : decode cX9_best 9 = .ok (.ireturn, 1) := by decide +kernel
theorem dX9_best_10 : decode cX9_best 10 = .ok (.aload_n 0, 1) := by decide +kernel
theorem dX9_best_11 : decode cX9_best 11 = .ok (.getfield 106, 3) := by decide +kernel
theorem dX9_best_14 : decode cX9_best 14 = .ok (.ifCond .ne 6, 3) := by decide +kernel
theorem dX9_best_17 : decode cX9_best 17 = .ok (.bipush (-103), 2) := by decide +kernel
theorem dX9_best_19 : decode cX9_best 19 = .ok (.ireturn, 1) := by decide +kernel
theorem dX9_best_20 : decode cX9_best 20 = .ok (.aload_n 0, 1) := by decide +kernel
theorem dX9_best_21 : decode cX9_best 21 = .ok (.getfield 22, 3) := by decide +kernel
theorem dX9_best_24 : decode cX9_best 24 = .ok (.iconst 1, 1) := by decide +kernel
theorem dX9_best_25 : decode cX9_best 25 = .ok (.iaload, 1) := by decide +kernel
theorem dX9_best_26 : decode cX9_best 26 = .ok (.bipush 8, 2) := by decide +kernel
theorem dX9_best_28 : decode cX9_best 28 = .ok (.if_icmp .ne 8, 3) := by decide +kernel
theorem dX9_best_31 : decode cX9_best 31 = .ok (.bipush (-104), 2) := by decide +kernel
theorem dX9_best_33 : decode cX9_best 33 = .ok (.goto 8, 3) := by decide +kernel
theorem dX9_best_36 : decode cX9_best 36 = .ok (.aload_n 0, 1) := by decide +kernel
theorem dX9_best_37 : decode cX9_best 37 = .ok (.iload_n 1, 1) := by decide +kernel
theorem dX9_best_38 : decode cX9_best 38 = .ok (.invokevirtual 261, 3) := by decide +kernel
theorem dX9_best_41 : decode cX9_best 41 = .ok (.ireturn, 1) := by decide +kernel
theorem dX9_allOf_0 : decode cX9_allOf 0 = .ok (.aload_n 0, 1) := by decide +kernel
theorem dX9_allOf_1 : decode cX9_allOf 1 = .ok (.getfield 22, 3) := by decide +kernel
theorem dX9_allOf_4 : decode cX9_allOf 4 = .ok (.iconst 0, 1) := by decide +kernel
theorem dX9_allOf_5 : decode cX9_allOf 5 = .ok (.iaload, 1) := by decide +kernel
theorem dX9_allOf_6 : decode cX9_allOf 6 = .ok (.aload_n 0, 1) := by decide +kernel
theorem dX9_allOf_7 : decode cX9_allOf 7 = .ok (.getfield 22, 3) := by decide +kernel
theorem dX9_allOf_10 : decode cX9_allOf 10 = .ok (.iconst 1, 1) := by decide +kernel
theorem dX9_allOf_11 : decode cX9_allOf 11 = .ok (.iaload, 1) := by decide +kernel
theorem dX9_allOf_12 : decode cX9_allOf 12 = .ok (.iadd, 1) := by decide +kernel
theorem dX9_allOf_13 : decode cX9_allOf 13 = .ok (.istore_n 1, 1) := by decide +kernel
theorem dX9_allOf_14 : decode cX9_allOf 14 = .ok (.iload_n 1, 1) := by decide +kernel
theorem dX9_allOf_15 : decode cX9_allOf 15 = .ok (.ifCond .ne 16, 3) := by decide +kernel
theorem dX9_allOf_18 : decode cX9_allOf 18 = .ok (.lconst 1, 1) := by decide +kernel
theorem dX9_allOf_19 : decode cX9_allOf 19 = .ok (.lconst 1, 1) := by decide +kernel
theorem dX9_allOf_20 : decode cX9_allOf 20 = .ok (.bipush 52, 2) := by decide +kernel
theorem dX9_allOf_22 : decode cX9_allOf 22 = .ok (.sipush 1023, 3) := by decide +kernel
theorem dX9_allOf_25 : decode cX9_allOf 25 = .ok (.invokestatic 187, 3) := by decide +kernel
theorem dX9_allOf_28 : decode cX9_allOf 28 = .ok (.goto 22, 3) := by decide +kernel
theorem dX9_allOf_31 : decode cX9_allOf 31 = .ok (.ldc2_w 175, 3) := by decide +kernel
theorem dX9_allOf_34 : decode cX9_allOf 34 = .ok (.aload_n 0, 1) := by decide +kernel
theorem dX9_allOf_35 : decode cX9_allOf 35 = .ok (.invokevirtual 252, 3) := by decide +kernel
theorem dX9_allOf_38 : decode cX9_allOf 38 = .ok (.i2l, 1) := by decide +kernel
theorem dX9_allOf_39 : decode cX9_allOf 39 = .ok (.lmul, 1) := by decide +kernel
theorem dX9_allOf_40 : decode cX9_allOf 40 = .ok (.iload_n 1, 1) := by decide +kernel
theorem dX9_allOf_41 : decode cX9_allOf 41 = .ok (.i2l, 1) := by decide +kernel
theorem dX9_allOf_42 : decode cX9_allOf 42 = .ok (.bipush 52, 2) := by decide +kernel
theorem dX9_allOf_44 : decode cX9_allOf 44 = .ok (.sipush 1023, 3) := by decide +kernel
theorem dX9_allOf_47 : decode cX9_allOf 47 = .ok (.invokestatic 187, 3) := by decide +kernel
theorem dX9_allOf_50 : decode cX9_allOf 50 = .ok (.lreturn, 1) := by decide +kernel
theorem dX9_all_0 : decode cX9_all 0 = .ok (.aload_n 0, 1) := by decide +kernel
theorem dX9_all_1 : decode cX9_all 1 = .ok (.getfield 106, 3) := by decide +kernel
theorem dX9_all_4 : decode cX9_all 4 = .ok (.ifCond .eq 10, 3) := by decide +kernel
theorem dX9_all_7 : decode cX9_all 7 = .ok (.aload_n 0, 1) := by decide +kernel
theorem dX9_all_8 : decode cX9_all 8 = .ok (.invokevirtual 264, 3) := by decide +kernel
theorem dX9_all_11 : decode cX9_all 11 = .ok (.goto 6, 3) := by decide +kernel
theorem dX9_all_14 : decode cX9_all 14 = .ok (.ldc2_w 268, 3) := by decide +kernel
theorem dX9_all_17 : decode cX9_all 17 = .ok (.lreturn, 1) := by decide +kernel
theorem dX9_draw_0 : decode cX9_draw 0 = .ok (.aload_n 0, 1) := by decide +kernel
theorem dX9_draw_1 : decode cX9_draw 1 = .ok (.ldc2_w 270, 3) := by decide +kernel
theorem dX9_draw_4 : decode cX9_draw 4 = .ok (.aload_n 0, 1) := by decide +kernel
theorem dX9_draw_5 : decode cX9_draw 5 = .ok (.getfield 272, 3) := by decide +kernel
theorem dX9_draw_8 : decode cX9_draw 8 = .ok (.i2l, 1) := by decide +kernel
theorem dX9_draw_9 : decode cX9_draw 9 = .ok (.lmul, 1) := by decide +kernel
theorem dX9_draw_10 : decode cX9_draw 10 = .ok (.ldc2_w 275, 3) := by decide +kernel
theorem dX9_draw_13 : decode cX9_draw 13 = .ok (.ladd, 1) := by decide +kernel
theorem dX9_draw_14 : decode cX9_draw 14 = .ok (.ldc2_w 277, 3) := by decide +kernel
theorem dX9_draw_17 : decode cX9_draw 17 = .ok (.land, 1) := by decide +kernel
theorem dX9_draw_18 : decode cX9_draw 18 = .ok (.l2i, 1) := by decide +kernel
theorem dX9_draw_19 : decode cX9_draw 19 = .ok (.putfield 272, 3) := by decide +kernel
theorem dX9_draw_22 : decode cX9_draw 22 = .ok (.aload_n 0, 1) := by decide +kernel
theorem dX9_draw_23 : decode cX9_draw 23 = .ok (.getfield 272, 3) := by decide +kernel
theorem dX9_draw_26 : decode cX9_draw 26 = .ok (.ldc_w 279, 3) := by decide +kernel
theorem dX9_draw_29 : decode cX9_draw 29 = .ok (.idiv, 1) := by decide +kernel
theorem dX9_draw_30 : decode cX9_draw 30 = .ok (.iload_n 1, 1) := by decide +kernel
theorem dX9_draw_31 : decode cX9_draw 31 = .ok (.irem, 1) := by decide +kernel
theorem dX9_draw_32 : decode cX9_draw 32 = .ok (.ireturn, 1) := by decide +kernel
theorem dX9_drawn_0 : decode cX9_drawn 0 = .ok (.iload_n 1, 1) := by decide +kernel
theorem dX9_drawn_1 : decode cX9_drawn 1 = .ok (.i2l, 1) := by decide +kernel
theorem dX9_drawn_2 : decode cX9_drawn 2 = .ok (.lconst 1, 1) := by decide +kernel
theorem dX9_drawn_3 : decode cX9_drawn 3 = .ok (.ldc2_w 280, 3) := by decide +kernel
theorem dX9_drawn_6 : decode cX9_drawn 6 = .ok (.invokestatic 73, 3) := by decide +kernel
theorem dX9_drawn_9 : decode cX9_drawn 9 = .ok (.ifCond .eq 19, 3) := by decide +kernel
theorem dX9_drawn_12 : decode cX9_drawn 12 = .ok (.iload_n 2, 1) := by decide +kernel
theorem dX9_drawn_13 : decode cX9_drawn 13 = .ok (.ifCond .lt 15, 3) := by decide +kernel
theorem dX9_drawn_16 : decode cX9_drawn 16 = .ok (.iload_n 3, 1) := by decide +kernel
theorem dX9_drawn_17 : decode cX9_drawn 17 = .ok (.i2l, 1) := by decide +kernel
theorem dX9_drawn_18 : decode cX9_drawn 18 = .ok (.lconst 0, 1) := by decide +kernel
theorem dX9_drawn_19 : decode cX9_drawn 19 = .ok (.ldc2_w 175, 3) := by decide +kernel
theorem dX9_drawn_22 : decode cX9_drawn 22 = .ok (.invokestatic 73, 3) := by decide +kernel
theorem dX9_drawn_25 : decode cX9_drawn 25 = .ok (.ifCond .ne 6, 3) := by decide +kernel
theorem dX9_drawn_28 : decode cX9_drawn 28 = .ok (.bipush (-102), 2) := by decide +kernel
theorem dX9_drawn_30 : decode cX9_drawn 30 = .ok (.ireturn, 1) := by decide +kernel
theorem dX9_drawn_31 : decode cX9_drawn 31 = .ok (.aload_n 0, 1) := by decide +kernel
theorem dX9_drawn_32 : decode cX9_drawn 32 = .ok (.getfield 19, 3) := by decide +kernel
theorem dX9_drawn_35 : decode cX9_drawn 35 = .ok (.aload_n 0, 1) := by decide +kernel
theorem dX9_drawn_36 : decode cX9_drawn 36 = .ok (.getfield 55, 3) := by decide +kernel
theorem dX9_drawn_39 : decode cX9_drawn 39 = .ok (.invokestatic 102, 3) := by decide +kernel
theorem dX9_drawn_42 : decode cX9_drawn 42 = .ok (.aload_n 0, 1) := by decide +kernel
theorem dX9_drawn_43 : decode cX9_drawn 43 = .ok (.getfield 22, 3) := by decide +kernel
theorem dX9_drawn_46 : decode cX9_drawn 46 = .ok (.aload_n 0, 1) := by decide +kernel
theorem dX9_drawn_47 : decode cX9_drawn 47 = .ok (.getfield 58, 3) := by decide +kernel
theorem dX9_drawn_50 : decode cX9_drawn 50 = .ok (.invokestatic 102, 3) := by decide +kernel
theorem dX9_drawn_53 : decode cX9_drawn 53 = .ok (.aload_n 0, 1) := by decide +kernel
theorem dX9_drawn_54 : decode cX9_drawn 54 = .ok (.iload_n 2, 1) := by decide +kernel
theorem dX9_drawn_55 : decode cX9_drawn 55 = .ok (.putfield 272, 3) := by decide +kernel
theorem dX9_drawn_58 : decode cX9_drawn 58 = .ok (.iconst 0, 1) := by decide +kernel
theorem dX9_drawn_59 : decode cX9_drawn 59 = .ok (.istore 4, 2) := by decide +kernel
theorem dX9_drawn_61 : decode cX9_drawn 61 = .ok (.iconst 0, 1) := by decide +kernel
theorem dX9_drawn_62 : decode cX9_drawn 62 = .ok (.istore 5, 2) := by decide +kernel
theorem dX9_drawn_64 : decode cX9_drawn 64 = .ok (.iconst 0, 1) := by decide +kernel
theorem dX9_drawn_65 : decode cX9_drawn 65 = .ok (.istore 6, 2) := by decide +kernel
theorem dX9_drawn_67 : decode cX9_drawn 67 = .ok (.iload 6, 2) := by decide +kernel
theorem dX9_drawn_69 : decode cX9_drawn 69 = .ok (.iload_n 1, 1) := by decide +kernel
theorem dX9_drawn_70 : decode cX9_drawn 70 = .ok (.if_icmp .ge 86, 3) := by decide +kernel
theorem dX9_drawn_73 : decode cX9_drawn 73 = .ok (.iconst 0, 1) := by decide +kernel
theorem dX9_drawn_74 : decode cX9_drawn 74 = .ok (.istore 7, 2) := by decide +kernel
theorem dX9_drawn_76 : decode cX9_drawn 76 = .ok (.iload 7, 2) := by decide +kernel
theorem dX9_drawn_78 : decode cX9_drawn 78 = .ok (.bipush 8, 2) := by decide +kernel
theorem dX9_drawn_80 : decode cX9_drawn 80 = .ok (.if_icmp .ge 34, 3) := by decide +kernel
theorem dX9_drawn_83 : decode cX9_drawn 83 = .ok (.aload_n 0, 1) := by decide +kernel
theorem dX9_drawn_84 : decode cX9_drawn 84 = .ok (.getfield 19, 3) := by decide +kernel
theorem dX9_drawn_87 : decode cX9_drawn 87 = .ok (.bipush 16, 2) := by decide +kernel
theorem dX9_drawn_89 : decode cX9_drawn 89 = .ok (.iload 7, 2) := by decide +kernel
theorem dX9_drawn_91 : decode cX9_drawn 91 = .ok (.iconst 4, 1) := by decide +kernel
theorem dX9_drawn_92 : decode cX9_drawn 92 = .ok (.idiv, 1) := by decide +kernel
theorem dX9_drawn_93 : decode cX9_drawn 93 = .ok (.imul, 1) := by decide +kernel
theorem dX9_drawn_94 : decode cX9_drawn 94 = .ok (.iload 7, 2) := by decide +kernel
theorem dX9_drawn_96 : decode cX9_drawn 96 = .ok (.iconst 4, 1) := by decide +kernel
theorem dX9_drawn_97 : decode cX9_drawn 97 = .ok (.irem, 1) := by decide +kernel
theorem dX9_drawn_98 : decode cX9_drawn 98 = .ok (.iadd, 1) := by decide +kernel
theorem dX9_drawn_99 : decode cX9_drawn 99 = .ok (.bipush 97, 2) := by decide +kernel
theorem dX9_drawn_101 : decode cX9_drawn 101 = .ok (.aload_n 0, 1) := by decide +kernel
theorem dX9_drawn_102 : decode cX9_drawn 102 = .ok (.iconst 5, 1) := by decide +kernel
theorem dX9_drawn_103 : decode cX9_drawn 103 = .ok (.invokevirtual 282, 3) := by decide +kernel
theorem dX9_drawn_106 : decode cX9_drawn 106 = .ok (.iadd, 1) := by decide +kernel
theorem dX9_drawn_107 : decode cX9_drawn 107 = .ok (.iastore, 1) := by decide +kernel
theorem dX9_drawn_108 : decode cX9_drawn 108 = .ok (.iinc 7 1, 3) := by decide +kernel
theorem dX9_drawn_111 : decode cX9_drawn 111 = .ok (.goto (-35), 3) := by decide +kernel
theorem dX9_drawn_114 : decode cX9_drawn 114 = .ok (.aload_n 0, 1) := by decide +kernel
theorem dX9_drawn_115 : decode cX9_drawn 115 = .ok (.getfield 22, 3) := by decide +kernel
theorem dX9_drawn_118 : decode cX9_drawn 118 = .ok (.iconst 0, 1) := by decide +kernel
theorem dX9_drawn_119 : decode cX9_drawn 119 = .ok (.iconst 4, 1) := by decide +kernel
theorem dX9_drawn_120 : decode cX9_drawn 120 = .ok (.iastore, 1) := by decide +kernel
theorem dX9_drawn_121 : decode cX9_drawn 121 = .ok (.aload_n 0, 1) := by decide +kernel
theorem dX9_drawn_122 : decode cX9_drawn 122 = .ok (.getfield 22, 3) := by decide +kernel
theorem dX9_drawn_125 : decode cX9_drawn 125 = .ok (.iconst 1, 1) := by decide +kernel
theorem dX9_drawn_126 : decode cX9_drawn 126 = .ok (.iconst 4, 1) := by decide +kernel
theorem dX9_drawn_127 : decode cX9_drawn 127 = .ok (.iastore, 1) := by decide +kernel
theorem dX9_drawn_128 : decode cX9_drawn 128 = .ok (.aload_n 0, 1) := by decide +kernel
theorem dX9_drawn_129 : decode cX9_drawn 129 = .ok (.invokevirtual 209, 3) := by decide +kernel
theorem dX9_drawn_132 : decode cX9_drawn 132 = .ok (.iload 4, 2) := by decide +kernel
theorem dX9_drawn_134 : decode cX9_drawn 134 = .ok (.aload_n 0, 1) := by decide +kernel
theorem dX9_drawn_135 : decode cX9_drawn 135 = .ok (.invokevirtual 255, 3) := by decide +kernel
theorem dX9_drawn_138 : decode cX9_drawn 138 = .ok (.iadd, 1) := by decide +kernel
theorem dX9_drawn_139 : decode cX9_drawn 139 = .ok (.istore 4, 2) := by decide +kernel
theorem dX9_drawn_141 : decode cX9_drawn 141 = .ok (.iload 5, 2) := by decide +kernel
theorem dX9_drawn_143 : decode cX9_drawn 143 = .ok (.aload_n 0, 1) := by decide +kernel
theorem dX9_drawn_144 : decode cX9_drawn 144 = .ok (.getfield 157, 3) := by decide +kernel
theorem dX9_drawn_147 : decode cX9_drawn 147 = .ok (.iadd, 1) := by decide +kernel
theorem dX9_drawn_148 : decode cX9_drawn 148 = .ok (.istore 5, 2) := by decide +kernel
theorem dX9_drawn_150 : decode cX9_drawn 150 = .ok (.iinc 6 1, 3) := by decide +kernel
theorem dX9_drawn_153 : decode cX9_drawn 153 = .ok (.goto (-86), 3) := by decide +kernel
theorem dX9_drawn_156 : decode cX9_drawn 156 = .ok (.aload_n 0, 1) := by decide +kernel
theorem dX9_drawn_157 : decode cX9_drawn 157 = .ok (.getfield 55, 3) := by decide +kernel
theorem dX9_drawn_160 : decode cX9_drawn 160 = .ok (.aload_n 0, 1) := by decide +kernel
theorem dX9_drawn_161 : decode cX9_drawn 161 = .ok (.getfield 19, 3) := by decide +kernel
theorem dX9_drawn_164 : decode cX9_drawn 164 = .ok (.invokestatic 102, 3) := by decide +kernel
theorem dX9_drawn_167 : decode cX9_drawn 167 = .ok (.aload_n 0, 1) := by decide +kernel
theorem dX9_drawn_168 : decode cX9_drawn 168 = .ok (.getfield 58, 3) := by decide +kernel
theorem dX9_drawn_171 : decode cX9_drawn 171 = .ok (.aload_n 0, 1) := by decide +kernel
theorem dX9_drawn_172 : decode cX9_drawn 172 = .ok (.getfield 22, 3) := by decide +kernel
theorem dX9_drawn_175 : decode cX9_drawn 175 = .ok (.invokestatic 102, 3) := by decide +kernel
theorem dX9_drawn_178 : decode cX9_drawn 178 = .ok (.aload_n 0, 1) := by decide +kernel
theorem dX9_drawn_179 : decode cX9_drawn 179 = .ok (.invokevirtual 209, 3) := by decide +kernel
theorem dX9_drawn_182 : decode cX9_drawn 182 = .ok (.iload_n 3, 1) := by decide +kernel
theorem dX9_drawn_183 : decode cX9_drawn 183 = .ok (.ifCond .ne 8, 3) := by decide +kernel
theorem dX9_drawn_186 : decode cX9_drawn 186 = .ok (.iload 4, 2) := by decide +kernel
theorem dX9_drawn_188 : decode cX9_drawn 188 = .ok (.goto 17, 3) := by decide +kernel
theorem dX9_drawn_191 : decode cX9_drawn 191 = .ok (.iload_n 3, 1) := by decide +kernel
theorem dX9_drawn_192 : decode cX9_drawn 192 = .ok (.iconst 1, 1) := by decide +kernel
theorem dX9_drawn_193 : decode cX9_drawn 193 = .ok (.if_icmp .ne 8, 3) := by decide +kernel
theorem dX9_drawn_196 : decode cX9_drawn 196 = .ok (.iload 5, 2) := by decide +kernel
theorem dX9_drawn_198 : decode cX9_drawn 198 = .ok (.goto 7, 3) := by decide +kernel
theorem dX9_drawn_201 : decode cX9_drawn 201 = .ok (.aload_n 0, 1) := by decide +kernel
theorem dX9_drawn_202 : decode cX9_drawn 202 = .ok (.getfield 272, 3) := by decide +kernel
theorem dX9_drawn_205 : decode cX9_drawn 205 = .ok (.ireturn, 1) := by decide +kernel
theorem dX9_image_0 : decode cX9_image 0 = .ok (.aload_n 0, 1) := by decide +kernel
theorem dX9_image_1 : decode cX9_image 1 = .ok (.getfield 106, 3) := by decide +kernel
theorem dX9_image_4 : decode cX9_image 4 = .ok (.ifCond .ne 6, 3) := by decide +kernel
theorem dX9_image_7 : decode cX9_image 7 = .ok (.bipush (-103), 2) := by decide +kernel
theorem dX9_image_9 : decode cX9_image 9 = .ok (.ireturn, 1) := by decide +kernel
theorem dX9_image_10 : decode cX9_image 10 = .ok (.aload_n 0, 1) := by decide +kernel
theorem dX9_image_11 : decode cX9_image 11 = .ok (.getfield 19, 3) := by decide +kernel
theorem dX9_image_14 : decode cX9_image 14 = .ok (.aload_n 0, 1) := by decide +kernel
theorem dX9_image_15 : decode cX9_image 15 = .ok (.getfield 61, 3) := by decide +kernel
theorem dX9_image_18 : decode cX9_image 18 = .ok (.invokestatic 102, 3) := by decide +kernel
theorem dX9_image_21 : decode cX9_image 21 = .ok (.aload_n 0, 1) := by decide +kernel
theorem dX9_image_22 : decode cX9_image 22 = .ok (.getfield 22, 3) := by decide +kernel
theorem dX9_image_25 : decode cX9_image 25 = .ok (.aload_n 0, 1) := by decide +kernel
theorem dX9_image_26 : decode cX9_image 26 = .ok (.getfield 64, 3) := by decide +kernel
theorem dX9_image_29 : decode cX9_image 29 = .ok (.invokestatic 102, 3) := by decide +kernel
theorem dX9_image_32 : decode cX9_image 32 = .ok (.aload_n 0, 1) := by decide +kernel
theorem dX9_image_33 : decode cX9_image 33 = .ok (.aload_n 0, 1) := by decide +kernel
theorem dX9_image_34 : decode cX9_image 34 = .ok (.getfield 109, 3) := by decide +kernel
theorem dX9_image_37 : decode cX9_image 37 = .ok (.putfield 67, 3) := by decide +kernel
theorem dX9_image_40 : decode cX9_image 40 = .ok (.aload_n 0, 1) := by decide +kernel
theorem dX9_image_41 : decode cX9_image 41 = .ok (.getfield 22, 3) := by decide +kernel
theorem dX9_image_44 : decode cX9_image 44 = .ok (.iconst 0, 1) := by decide +kernel
theorem dX9_image_45 : decode cX9_image 45 = .ok (.iaload, 1) := by decide +kernel
theorem dX9_image_46 : decode cX9_image 46 = .ok (.aload_n 0, 1) := by decide +kernel
theorem dX9_image_47 : decode cX9_image 47 = .ok (.getfield 22, 3) := by decide +kernel
theorem dX9_image_50 : decode cX9_image 50 = .ok (.iconst 1, 1) := by decide +kernel
theorem dX9_image_51 : decode cX9_image 51 = .ok (.iaload, 1) := by decide +kernel
theorem dX9_image_52 : decode cX9_image 52 = .ok (.iadd, 1) := by decide +kernel
theorem dX9_image_53 : decode cX9_image 53 = .ok (.ireturn, 1) := by decide +kernel
theorem dX9_restore_0 : decode cX9_restore 0 = .ok (.aload_n 0, 1) := by decide +kernel
theorem dX9_restore_1 : decode cX9_restore 1 = .ok (.getfield 67, 3) := by decide +kernel
theorem dX9_restore_4 : decode cX9_restore 4 = .ok (.aload_n 0, 1) := by decide +kernel
theorem dX9_restore_5 : decode cX9_restore 5 = .ok (.getfield 109, 3) := by decide +kernel
theorem dX9_restore_8 : decode cX9_restore 8 = .ok (.if_icmp .eq 6, 3) := by decide +kernel
theorem dX9_restore_11 : decode cX9_restore 11 = .ok (.bipush (-103), 2) := by decide +kernel
theorem dX9_restore_13 : decode cX9_restore 13 = .ok (.ireturn, 1) := by decide +kernel
theorem dX9_restore_14 : decode cX9_restore 14 = .ok (.aload_n 0, 1) := by decide +kernel
theorem dX9_restore_15 : decode cX9_restore 15 = .ok (.getfield 61, 3) := by decide +kernel
theorem dX9_restore_18 : decode cX9_restore 18 = .ok (.aload_n 0, 1) := by decide +kernel
theorem dX9_restore_19 : decode cX9_restore 19 = .ok (.getfield 19, 3) := by decide +kernel
theorem dX9_restore_22 : decode cX9_restore 22 = .ok (.invokestatic 102, 3) := by decide +kernel
theorem dX9_restore_25 : decode cX9_restore 25 = .ok (.aload_n 0, 1) := by decide +kernel
theorem dX9_restore_26 : decode cX9_restore 26 = .ok (.getfield 64, 3) := by decide +kernel
theorem dX9_restore_29 : decode cX9_restore 29 = .ok (.aload_n 0, 1) := by decide +kernel
theorem dX9_restore_30 : decode cX9_restore 30 = .ok (.getfield 22, 3) := by decide +kernel
theorem dX9_restore_33 : decode cX9_restore 33 = .ok (.invokestatic 102, 3) := by decide +kernel
theorem dX9_restore_36 : decode cX9_restore 36 = .ok (.aload_n 0, 1) := by decide +kernel
theorem dX9_restore_37 : decode cX9_restore 37 = .ok (.invokevirtual 112, 3) := by decide +kernel
theorem dX9_restore_40 : decode cX9_restore 40 = .ok (.aload_n 0, 1) := by decide +kernel
theorem dX9_restore_41 : decode cX9_restore 41 = .ok (.getfield 22, 3) := by decide +kernel
theorem dX9_restore_44 : decode cX9_restore 44 = .ok (.iconst 0, 1) := by decide +kernel
theorem dX9_restore_45 : decode cX9_restore 45 = .ok (.iaload, 1) := by decide +kernel
theorem dX9_restore_46 : decode cX9_restore 46 = .ok (.aload_n 0, 1) := by decide +kernel
theorem dX9_restore_47 : decode cX9_restore 47 = .ok (.getfield 22, 3) := by decide +kernel
theorem dX9_restore_50 : decode cX9_restore 50 = .ok (.iconst 1, 1) := by decide +kernel
theorem dX9_restore_51 : decode cX9_restore 51 = .ok (.iaload, 1) := by decide +kernel
theorem dX9_restore_52 : decode cX9_restore 52 = .ok (.iadd, 1) := by decide +kernel
theorem dX9_restore_53 : decode cX9_restore 53 = .ok (.ireturn, 1) := by decide +kernel
theorem dX9_stepsOf_0 : decode cX9_stepsOf 0 = .ok (.iconst 0, 1) := by decide +kernel
theorem dX9_stepsOf_1 : decode cX9_stepsOf 1 = .ok (.istore_n 2, 1) := by decide +kernel
theorem dX9_stepsOf_2 : decode cX9_stepsOf 2 = .ok (.iconst 0, 1) := by decide +kernel
theorem dX9_stepsOf_3 : decode cX9_stepsOf 3 = .ok (.istore_n 3, 1) := by decide +kernel
theorem dX9_stepsOf_4 : decode cX9_stepsOf 4 = .ok (.iload_n 3, 1) := by decide +kernel
theorem dX9_stepsOf_5 : decode cX9_stepsOf 5 = .ok (.aload_n 0, 1) := by decide +kernel
theorem dX9_stepsOf_6 : decode cX9_stepsOf 6 = .ok (.getfield 197, 3) := by decide +kernel
theorem dX9_stepsOf_9 : decode cX9_stepsOf 9 = .ok (.if_icmp .ge 29, 3) := by decide +kernel
theorem dX9_stepsOf_12 : decode cX9_stepsOf 12 = .ok (.iload_n 2, 1) := by decide +kernel
theorem dX9_stepsOf_13 : decode cX9_stepsOf 13 = .ok (.aload_n 0, 1) := by decide +kernel
theorem dX9_stepsOf_14 : decode cX9_stepsOf 14 = .ok (.getfield 46, 3) := by decide +kernel
theorem dX9_stepsOf_17 : decode cX9_stepsOf 17 = .ok (.iconst 5, 1) := by decide +kernel
theorem dX9_stepsOf_18 : decode cX9_stepsOf 18 = .ok (.iload_n 3, 1) := by decide +kernel
theorem dX9_stepsOf_19 : decode cX9_stepsOf 19 = .ok (.imul, 1) := by decide +kernel
theorem dX9_stepsOf_20 : decode cX9_stepsOf 20 = .ok (.iaload, 1) := by decide +kernel
theorem dX9_stepsOf_21 : decode cX9_stepsOf 21 = .ok (.iload_n 1, 1) := by decide +kernel
theorem dX9_stepsOf_22 : decode cX9_stepsOf 22 = .ok (.if_icmp .ne 7, 3) := by decide +kernel
theorem dX9_stepsOf_25 : decode cX9_stepsOf 25 = .ok (.iconst 1, 1) := by decide +kernel
theorem dX9_stepsOf_26 : decode cX9_stepsOf 26 = .ok (.goto 4, 3) := by decide +kernel
theorem dX9_stepsOf_29 : decode cX9_stepsOf 29 = .ok (.iconst 0, 1) := by decide +kernel
theorem dX9_stepsOf_30 : decode cX9_stepsOf 30 = .ok (.iadd, 1) := by decide +kernel
theorem dX9_stepsOf_31 : decode cX9_stepsOf 31 = .ok (.istore_n 2, 1) := by decide +kernel
theorem dX9_stepsOf_32 : decode cX9_stepsOf 32 = .ok (.iinc 3 1, 3) := by decide +kernel
theorem dX9_stepsOf_35 : decode cX9_stepsOf 35 = .ok (.goto (-31), 3) := by decide +kernel
theorem dX9_stepsOf_38 : decode cX9_stepsOf 38 = .ok (.iload_n 2, 1) := by decide +kernel
theorem dX9_stepsOf_39 : decode cX9_stepsOf 39 = .ok (.ireturn, 1) := by decide +kernel
theorem dX9_rackedAll_0 : decode cX9_rackedAll 0 = .ok (.iconst 0, 1) := by decide +kernel
theorem dX9_rackedAll_1 : decode cX9_rackedAll 1 = .ok (.istore_n 1, 1) := by decide +kernel
theorem dX9_rackedAll_2 : decode cX9_rackedAll 2 = .ok (.iconst 0, 1) := by decide +kernel
theorem dX9_rackedAll_3 : decode cX9_rackedAll 3 = .ok (.istore_n 2, 1) := by decide +kernel
theorem dX9_rackedAll_4 : decode cX9_rackedAll 4 = .ok (.iload_n 2, 1) := by decide +kernel
theorem dX9_rackedAll_5 : decode cX9_rackedAll 5 = .ok (.iconst 5, 1) := by decide +kernel
theorem dX9_rackedAll_6 : decode cX9_rackedAll 6 = .ok (.if_icmp .ge 17, 3) := by decide +kernel
theorem dX9_rackedAll_9 : decode cX9_rackedAll 9 = .ok (.iload_n 1, 1) := by decide +kernel
theorem dX9_rackedAll_10 : decode cX9_rackedAll 10 = .ok (.aload_n 0, 1) := by decide +kernel
theorem dX9_rackedAll_11 : decode cX9_rackedAll 11 = .ok (.iload_n 2, 1) := by decide +kernel
theorem dX9_rackedAll_12 : decode cX9_rackedAll 12 = .ok (.invokevirtual 236, 3) := by decide +kernel
theorem dX9_rackedAll_15 : decode cX9_rackedAll 15 = .ok (.iadd, 1) := by decide +kernel
theorem dX9_rackedAll_16 : decode cX9_rackedAll 16 = .ok (.istore_n 1, 1) := by decide +kernel
theorem dX9_rackedAll_17 : decode cX9_rackedAll 17 = .ok (.iinc 2 1, 3) := by decide +kernel
theorem dX9_rackedAll_20 : decode cX9_rackedAll 20 = .ok (.goto (-16), 3) := by decide +kernel
theorem dX9_rackedAll_23 : decode cX9_rackedAll 23 = .ok (.iload_n 1, 1) := by decide +kernel
theorem dX9_rackedAll_24 : decode cX9_rackedAll 24 = .ok (.ireturn, 1) := by decide +kernel
theorem dX9_countOf_0 : decode cX9_countOf 0 = .ok (.iload_n 1, 1) := by decide +kernel
theorem dX9_countOf_1 : decode cX9_countOf 1 = .ok (.tableswitch 94 0 10 #[59, 59, 66, 71, 71, 71, 71, 71, 79, 84, 89], 59) := by decide +kernel
theorem dX9_countOf_60 : decode cX9_countOf 60 = .ok (.aload_n 0, 1) := by decide +kernel
theorem dX9_countOf_61 : decode cX9_countOf 61 = .ok (.getfield 22, 3) := by decide +kernel
theorem dX9_countOf_64 : decode cX9_countOf 64 = .ok (.iload_n 1, 1) := by decide +kernel
theorem dX9_countOf_65 : decode cX9_countOf 65 = .ok (.iaload, 1) := by decide +kernel
theorem dX9_countOf_66 : decode cX9_countOf 66 = .ok (.ireturn, 1) := by decide +kernel
theorem dX9_countOf_67 : decode cX9_countOf 67 = .ok (.aload_n 0, 1) := by decide +kernel
theorem dX9_countOf_68 : decode cX9_countOf 68 = .ok (.getfield 197, 3) := by decide +kernel
theorem dX9_countOf_71 : decode cX9_countOf 71 = .ok (.ireturn, 1) := by decide +kernel
theorem dX9_countOf_72 : decode cX9_countOf 72 = .ok (.aload_n 0, 1) := by decide +kernel
theorem dX9_countOf_73 : decode cX9_countOf 73 = .ok (.iload_n 1, 1) := by decide +kernel
theorem dX9_countOf_74 : decode cX9_countOf 74 = .ok (.iconst 3, 1) := by decide +kernel
theorem dX9_countOf_75 : decode cX9_countOf 75 = .ok (.isub, 1) := by decide +kernel
theorem dX9_countOf_76 : decode cX9_countOf 76 = .ok (.invokevirtual 285, 3) := by decide +kernel
theorem dX9_countOf_79 : decode cX9_countOf 79 = .ok (.ireturn, 1) := by decide +kernel
theorem dX9_countOf_80 : decode cX9_countOf 80 = .ok (.aload_n 0, 1) := by decide +kernel
theorem dX9_countOf_81 : decode cX9_countOf 81 = .ok (.invokevirtual 288, 3) := by decide +kernel
theorem dX9_countOf_84 : decode cX9_countOf 84 = .ok (.ireturn, 1) := by decide +kernel
theorem dX9_countOf_85 : decode cX9_countOf 85 = .ok (.aload_n 0, 1) := by decide +kernel
theorem dX9_countOf_86 : decode cX9_countOf 86 = .ok (.getfield 77, 3) := by decide +kernel
theorem dX9_countOf_89 : decode cX9_countOf 89 = .ok (.ireturn, 1) := by decide +kernel
theorem dX9_countOf_90 : decode cX9_countOf 90 = .ok (.aload_n 0, 1) := by decide +kernel
theorem dX9_countOf_91 : decode cX9_countOf 91 = .ok (.getfield 109, 3) := by decide +kernel
theorem dX9_countOf_94 : decode cX9_countOf 94 = .ok (.ireturn, 1) := by decide +kernel
theorem dX9_countOf_95 : decode cX9_countOf 95 = .ok (.bipush (-102), 2) := by decide +kernel
theorem dX9_countOf_97 : decode cX9_countOf 97 = .ok (.ireturn, 1) := by decide +kernel
theorem dX9_count_0 : decode cX9_count 0 = .ok (.aload_n 0, 1) := by decide +kernel
theorem dX9_count_1 : decode cX9_count 1 = .ok (.iload_n 1, 1) := by decide +kernel
theorem dX9_count_2 : decode cX9_count 2 = .ok (.invokevirtual 291, 3) := by decide +kernel
theorem dX9_count_5 : decode cX9_count 5 = .ok (.ireturn, 1) := by decide +kernel
theorem dX9_say_0 : decode cX9_say 0 = .ok (.aload_n 0, 1) := by decide +kernel
theorem dX9_say_1 : decode cX9_say 1 = .ok (.ldc2_w 294, 3) := by decide +kernel
theorem dX9_say_4 : decode cX9_say 4 = .ok (.aload_n 0, 1) := by decide +kernel
theorem dX9_say_5 : decode cX9_say 5 = .ok (.getfield 296, 3) := by decide +kernel
theorem dX9_say_8 : decode cX9_say 8 = .ok (.lmul, 1) := by decide +kernel
theorem dX9_say_9 : decode cX9_say 9 = .ok (.lload_n 1, 1) := by decide +kernel
theorem dX9_say_10 : decode cX9_say 10 = .ok (.ladd, 1) := by decide +kernel
theorem dX9_say_11 : decode cX9_say 11 = .ok (.putfield 296, 3) := by decide +kernel
theorem dX9_say_14 : decode cX9_say 14 = .ok (.return_, 1) := by decide +kernel
theorem dX9_sayText_0 : decode cX9_sayText 0 = .ok (.iconst 0, 1) := by decide +kernel
theorem dX9_sayText_1 : decode cX9_sayText 1 = .ok (.istore_n 1, 1) := by decide +kernel
theorem dX9_sayText_2 : decode cX9_sayText 2 = .ok (.iload_n 1, 1) := by decide +kernel
theorem dX9_sayText_3 : decode cX9_sayText 3 = .ok (.iconst 5, 1) := by decide +kernel
theorem dX9_sayText_4 : decode cX9_sayText 4 = .ok (.if_icmp .ge 19, 3) := by decide +kernel
theorem dX9_sayText_7 : decode cX9_sayText 7 = .ok (.aload_n 0, 1) := by decide +kernel
theorem dX9_sayText_8 : decode cX9_sayText 8 = .ok (.aload_n 0, 1) := by decide +kernel
theorem dX9_sayText_9 : decode cX9_sayText 9 = .ok (.iload_n 1, 1) := by decide +kernel
theorem dX9_sayText_10 : decode cX9_sayText 10 = .ok (.invokevirtual 258, 3) := by decide +kernel
theorem dX9_sayText_13 : decode cX9_sayText 13 = .ok (.i2l, 1) := by decide +kernel
theorem dX9_sayText_14 : decode cX9_sayText 14 = .ok (.invokevirtual 300, 3) := by decide +kernel
theorem dX9_sayText_17 : decode cX9_sayText 17 = .ok (.iinc 1 1, 3) := by decide +kernel
theorem dX9_sayText_20 : decode cX9_sayText 20 = .ok (.goto (-18), 3) := by decide +kernel
theorem dX9_sayText_23 : decode cX9_sayText 23 = .ok (.aload_n 0, 1) := by decide +kernel
theorem dX9_sayText_24 : decode cX9_sayText 24 = .ok (.aload_n 0, 1) := by decide +kernel
theorem dX9_sayText_25 : decode cX9_sayText 25 = .ok (.invokevirtual 264, 3) := by decide +kernel
theorem dX9_sayText_28 : decode cX9_sayText 28 = .ok (.invokevirtual 300, 3) := by decide +kernel
theorem dX9_sayText_31 : decode cX9_sayText 31 = .ok (.return_, 1) := by decide +kernel
theorem dX9_digest_0 : decode cX9_digest 0 = .ok (.aload_n 0, 1) := by decide +kernel
theorem dX9_digest_1 : decode cX9_digest 1 = .ok (.ldc2_w 304, 3) := by decide +kernel
theorem dX9_digest_4 : decode cX9_digest 4 = .ok (.putfield 296, 3) := by decide +kernel
theorem dX9_digest_7 : decode cX9_digest 7 = .ok (.iconst 0, 1) := by decide +kernel
theorem dX9_digest_8 : decode cX9_digest 8 = .ok (.istore_n 1, 1) := by decide +kernel
theorem dX9_digest_9 : decode cX9_digest 9 = .ok (.iload_n 1, 1) := by decide +kernel
theorem dX9_digest_10 : decode cX9_digest 10 = .ok (.iconst 2, 1) := by decide +kernel
theorem dX9_digest_11 : decode cX9_digest 11 = .ok (.if_icmp .ge 53, 3) := by decide +kernel
theorem dX9_digest_14 : decode cX9_digest 14 = .ok (.iconst 0, 1) := by decide +kernel
theorem dX9_digest_15 : decode cX9_digest 15 = .ok (.istore_n 2, 1) := by decide +kernel
theorem dX9_digest_16 : decode cX9_digest 16 = .ok (.iload_n 2, 1) := by decide +kernel
theorem dX9_digest_17 : decode cX9_digest 17 = .ok (.aload_n 0, 1) := by decide +kernel
theorem dX9_digest_18 : decode cX9_digest 18 = .ok (.getfield 22, 3) := by decide +kernel
theorem dX9_digest_21 : decode cX9_digest 21 = .ok (.iload_n 1, 1) := by decide +kernel
theorem dX9_digest_22 : decode cX9_digest 22 = .ok (.iaload, 1) := by decide +kernel
theorem dX9_digest_23 : decode cX9_digest 23 = .ok (.if_icmp .ge 35, 3) := by decide +kernel
theorem dX9_digest_26 : decode cX9_digest 26 = .ok (.iconst 0, 1) := by decide +kernel
theorem dX9_digest_27 : decode cX9_digest 27 = .ok (.istore_n 3, 1) := by decide +kernel
theorem dX9_digest_28 : decode cX9_digest 28 = .ok (.iload_n 3, 1) := by decide +kernel
theorem dX9_digest_29 : decode cX9_digest 29 = .ok (.bipush 6, 2) := by decide +kernel
theorem dX9_digest_31 : decode cX9_digest 31 = .ok (.if_icmp .ge 21, 3) := by decide +kernel
theorem dX9_digest_34 : decode cX9_digest 34 = .ok (.aload_n 0, 1) := by decide +kernel
theorem dX9_digest_35 : decode cX9_digest 35 = .ok (.aload_n 0, 1) := by decide +kernel
theorem dX9_digest_36 : decode cX9_digest 36 = .ok (.iload_n 1, 1) := by decide +kernel
theorem dX9_digest_37 : decode cX9_digest 37 = .ok (.iload_n 2, 1) := by decide +kernel
theorem dX9_digest_38 : decode cX9_digest 38 = .ok (.iload_n 3, 1) := by decide +kernel
theorem dX9_digest_39 : decode cX9_digest 39 = .ok (.invokevirtual 233, 3) := by decide +kernel
theorem dX9_digest_42 : decode cX9_digest 42 = .ok (.i2l, 1) := by decide +kernel
theorem dX9_digest_43 : decode cX9_digest 43 = .ok (.invokevirtual 300, 3) := by decide +kernel
theorem dX9_digest_46 : decode cX9_digest 46 = .ok (.iinc 3 1, 3) := by decide +kernel
theorem dX9_digest_49 : decode cX9_digest 49 = .ok (.goto (-21), 3) := by decide +kernel
theorem dX9_digest_52 : decode cX9_digest 52 = .ok (.iinc 2 1, 3) := by decide +kernel
theorem dX9_digest_55 : decode cX9_digest 55 = .ok (.goto (-39), 3) := by decide +kernel
theorem dX9_digest_58 : decode cX9_digest 58 = .ok (.iinc 1 1, 3) := by decide +kernel
theorem dX9_digest_61 : decode cX9_digest 61 = .ok (.goto (-52), 3) := by decide +kernel
theorem dX9_digest_64 : decode cX9_digest 64 = .ok (.iconst 0, 1) := by decide +kernel
theorem dX9_digest_65 : decode cX9_digest 65 = .ok (.istore_n 1, 1) := by decide +kernel
theorem dX9_digest_66 : decode cX9_digest 66 = .ok (.iload_n 1, 1) := by decide +kernel
theorem dX9_digest_67 : decode cX9_digest 67 = .ok (.iconst 5, 1) := by decide +kernel
theorem dX9_digest_68 : decode cX9_digest 68 = .ok (.aload_n 0, 1) := by decide +kernel
theorem dX9_digest_69 : decode cX9_digest 69 = .ok (.getfield 197, 3) := by decide +kernel
theorem dX9_digest_72 : decode cX9_digest 72 = .ok (.imul, 1) := by decide +kernel
theorem dX9_digest_73 : decode cX9_digest 73 = .ok (.if_icmp .ge 20, 3) := by decide +kernel
theorem dX9_digest_76 : decode cX9_digest 76 = .ok (.aload_n 0, 1) := by decide +kernel
theorem dX9_digest_77 : decode cX9_digest 77 = .ok (.aload_n 0, 1) := by decide +kernel
theorem dX9_digest_78 : decode cX9_digest 78 = .ok (.getfield 46, 3) := by decide +kernel
theorem dX9_digest_81 : decode cX9_digest 81 = .ok (.iload_n 1, 1) := by decide +kernel
theorem dX9_digest_82 : decode cX9_digest 82 = .ok (.iaload, 1) := by decide +kernel
theorem dX9_digest_83 : decode cX9_digest 83 = .ok (.i2l, 1) := by decide +kernel
theorem dX9_digest_84 : decode cX9_digest 84 = .ok (.invokevirtual 300, 3) := by decide +kernel
theorem dX9_digest_87 : decode cX9_digest 87 = .ok (.iinc 1 1, 3) := by decide +kernel
theorem dX9_digest_90 : decode cX9_digest 90 = .ok (.goto (-24), 3) := by decide +kernel
theorem dX9_digest_93 : decode cX9_digest 93 = .ok (.aload_n 0, 1) := by decide +kernel
theorem dX9_digest_94 : decode cX9_digest 94 = .ok (.getfield 106, 3) := by decide +kernel
theorem dX9_digest_97 : decode cX9_digest 97 = .ok (.ifCond .eq 7, 3) := by decide +kernel
theorem dX9_digest_100 : decode cX9_digest 100 = .ok (.aload_n 0, 1) := by decide +kernel
theorem dX9_digest_101 : decode cX9_digest 101 = .ok (.invokevirtual 306, 3) := by decide +kernel
theorem dX9_digest_104 : decode cX9_digest 104 = .ok (.iconst 0, 1) := by decide +kernel
theorem dX9_digest_105 : decode cX9_digest 105 = .ok (.istore_n 1, 1) := by decide +kernel
theorem dX9_digest_106 : decode cX9_digest 106 = .ok (.iload_n 1, 1) := by decide +kernel
theorem dX9_digest_107 : decode cX9_digest 107 = .ok (.bipush 15, 2) := by decide +kernel
theorem dX9_digest_109 : decode cX9_digest 109 = .ok (.if_icmp .ge 20, 3) := by decide +kernel
theorem dX9_digest_112 : decode cX9_digest 112 = .ok (.aload_n 0, 1) := by decide +kernel
theorem dX9_digest_113 : decode cX9_digest 113 = .ok (.aload_n 0, 1) := by decide +kernel
theorem dX9_digest_114 : decode cX9_digest 114 = .ok (.getfield 52, 3) := by decide +kernel
theorem dX9_digest_117 : decode cX9_digest 117 = .ok (.iload_n 1, 1) := by decide +kernel
theorem dX9_digest_118 : decode cX9_digest 118 = .ok (.iaload, 1) := by decide +kernel
theorem dX9_digest_119 : decode cX9_digest 119 = .ok (.i2l, 1) := by decide +kernel
theorem dX9_digest_120 : decode cX9_digest 120 = .ok (.invokevirtual 300, 3) := by decide +kernel
theorem dX9_digest_123 : decode cX9_digest 123 = .ok (.iinc 1 1, 3) := by decide +kernel
theorem dX9_digest_126 : decode cX9_digest 126 = .ok (.goto (-20), 3) := by decide +kernel
theorem dX9_digest_129 : decode cX9_digest 129 = .ok (.iconst 0, 1) := by decide +kernel
theorem dX9_digest_130 : decode cX9_digest 130 = .ok (.istore_n 1, 1) := by decide +kernel
theorem dX9_digest_131 : decode cX9_digest 131 = .ok (.iload_n 1, 1) := by decide +kernel
theorem dX9_digest_132 : decode cX9_digest 132 = .ok (.aload_n 0, 1) := by decide +kernel
theorem dX9_digest_133 : decode cX9_digest 133 = .ok (.getfield 77, 3) := by decide +kernel
theorem dX9_digest_136 : decode cX9_digest 136 = .ok (.if_icmp .ge 20, 3) := by decide +kernel
theorem dX9_digest_139 : decode cX9_digest 139 = .ok (.aload_n 0, 1) := by decide +kernel
theorem dX9_digest_140 : decode cX9_digest 140 = .ok (.aload_n 0, 1) := by decide +kernel
theorem dX9_digest_141 : decode cX9_digest 141 = .ok (.getfield 7, 3) := by decide +kernel
theorem dX9_digest_144 : decode cX9_digest 144 = .ok (.iload_n 1, 1) := by decide +kernel
theorem dX9_digest_145 : decode cX9_digest 145 = .ok (.iaload, 1) := by decide +kernel
theorem dX9_digest_146 : decode cX9_digest 146 = .ok (.i2l, 1) := by decide +kernel
theorem dX9_digest_147 : decode cX9_digest 147 = .ok (.invokevirtual 300, 3) := by decide +kernel
theorem dX9_digest_150 : decode cX9_digest 150 = .ok (.iinc 1 1, 3) := by decide +kernel
theorem dX9_digest_153 : decode cX9_digest 153 = .ok (.goto (-22), 3) := by decide +kernel
theorem dX9_digest_156 : decode cX9_digest 156 = .ok (.iconst 0, 1) := by decide +kernel
theorem dX9_digest_157 : decode cX9_digest 157 = .ok (.istore_n 1, 1) := by decide +kernel
theorem dX9_digest_158 : decode cX9_digest 158 = .ok (.iload_n 1, 1) := by decide +kernel
theorem dX9_digest_159 : decode cX9_digest 159 = .ok (.bipush 11, 2) := by decide +kernel
theorem dX9_digest_161 : decode cX9_digest 161 = .ok (.if_icmp .ge 19, 3) := by decide +kernel
theorem dX9_digest_164 : decode cX9_digest 164 = .ok (.aload_n 0, 1) := by decide +kernel
theorem dX9_digest_165 : decode cX9_digest 165 = .ok (.aload_n 0, 1) := by decide +kernel
theorem dX9_digest_166 : decode cX9_digest 166 = .ok (.iload_n 1, 1) := by decide +kernel
theorem dX9_digest_167 : decode cX9_digest 167 = .ok (.invokevirtual 291, 3) := by decide +kernel
theorem dX9_digest_170 : decode cX9_digest 170 = .ok (.i2l, 1) := by decide +kernel
theorem dX9_digest_171 : decode cX9_digest 171 = .ok (.invokevirtual 300, 3) := by decide +kernel
theorem dX9_digest_174 : decode cX9_digest 174 = .ok (.iinc 1 1, 3) := by decide +kernel
theorem dX9_digest_177 : decode cX9_digest 177 = .ok (.goto (-19), 3) := by decide +kernel
theorem dX9_digest_180 : decode cX9_digest 180 = .ok (.aload_n 0, 1) := by decide +kernel
theorem dX9_digest_181 : decode cX9_digest 181 = .ok (.getfield 296, 3) := by decide +kernel
theorem dX9_digest_184 : decode cX9_digest 184 = .ok (.lreturn, 1) := by decide +kernel
theorem dL_law_0 : decode cL_law 0 = .ok (.new 7, 3) := by decide +kernel
theorem dL_law_3 : decode cL_law 3 = .ok (.dup, 1) := by decide +kernel
theorem dL_law_4 : decode cL_law 4 = .ok (.invokespecial 9, 3) := by decide +kernel
theorem dL_law_7 : decode cL_law 7 = .ok (.astore_n 1, 1) := by decide +kernel
theorem dL_law_8 : decode cL_law 8 = .ok (.new 10, 3) := by decide +kernel
theorem dL_law_11 : decode cL_law 11 = .ok (.dup, 1) := by decide +kernel
theorem dL_law_12 : decode cL_law 12 = .ok (.invokespecial 12, 3) := by decide +kernel
theorem dL_law_15 : decode cL_law 15 = .ok (.astore_n 2, 1) := by decide +kernel
theorem dL_law_16 : decode cL_law 16 = .ok (.iconst 0, 1) := by decide +kernel
theorem dL_law_17 : decode cL_law 17 = .ok (.istore_n 3, 1) := by decide +kernel
theorem dL_law_18 : decode cL_law 18 = .ok (.iload_n 3, 1) := by decide +kernel
theorem dL_law_19 : decode cL_law 19 = .ok (.aload_n 0, 1) := by decide +kernel
theorem dL_law_20 : decode cL_law 20 = .ok (.arraylength, 1) := by decide +kernel
theorem dL_law_21 : decode cL_law 21 = .ok (.iconst 4, 1) := by decide +kernel
theorem dL_law_22 : decode cL_law 22 = .ok (.isub, 1) := by decide +kernel
theorem dL_law_23 : decode cL_law 23 = .ok (.if_icmp .gt 687, 3) := by decide +kernel
theorem dL_law_26 : decode cL_law 26 = .ok (.aload_n 0, 1) := by decide +kernel
theorem dL_law_27 : decode cL_law 27 = .ok (.iload_n 3, 1) := by decide +kernel
theorem dL_law_28 : decode cL_law 28 = .ok (.iaload, 1) := by decide +kernel
theorem dL_law_29 : decode cL_law 29 = .ok (.bipush 31, 2) := by decide +kernel
theorem dL_law_31 : decode cL_law 31 = .ok (.iand, 1) := by decide +kernel
theorem dL_law_32 : decode cL_law 32 = .ok (.tableswitch 672 0 21 #[104, 127, 140, 153, 166, 209, 242, 275, 308, 341, 374, 417, 450, 493, 506, 529, 552, 566, 609, 622, 635, 658], 104) := by decide +kernel
theorem dL_law_136 : decode cL_law 136 = .ok (.aload_n 1, 1) := by decide +kernel
theorem dL_law_137 : decode cL_law 137 = .ok (.aload_n 0, 1) := by decide +kernel
theorem dL_law_138 : decode cL_law 138 = .ok (.iload_n 3, 1) := by decide +kernel
theorem dL_law_139 : decode cL_law 139 = .ok (.iconst 1, 1) := by decide +kernel
theorem dL_law_140 : decode cL_law 140 = .ok (.iadd, 1) := by decide +kernel
theorem dL_law_141 : decode cL_law 141 = .ok (.iaload, 1) := by decide +kernel
theorem dL_law_142 : decode cL_law 142 = .ok (.invokevirtual 13, 3) := by decide +kernel
theorem dL_law_145 : decode cL_law 145 = .ok (.aload_n 2, 1) := by decide +kernel
theorem dL_law_146 : decode cL_law 146 = .ok (.aload_n 0, 1) := by decide +kernel
theorem dL_law_147 : decode cL_law 147 = .ok (.iload_n 3, 1) := by decide +kernel
theorem dL_law_148 : decode cL_law 148 = .ok (.iconst 1, 1) := by decide +kernel
theorem dL_law_149 : decode cL_law 149 = .ok (.iadd, 1) := by decide +kernel
theorem dL_law_150 : decode cL_law 150 = .ok (.iaload, 1) := by decide +kernel
theorem dL_law_151 : decode cL_law 151 = .ok (.invokevirtual 17, 3) := by decide +kernel
theorem dL_law_154 : decode cL_law 154 = .ok (.if_icmp .eq 550, 3) := by decide +kernel
theorem dL_law_157 : decode cL_law 157 = .ok (.iconst 0, 1) := by decide +kernel
theorem dL_law_158 : decode cL_law 158 = .ok (.ireturn, 1) := by decide +kernel
theorem dL_law_159 : decode cL_law 159 = .ok (.aload_n 1, 1) := by decide +kernel
theorem dL_law_160 : decode cL_law 160 = .ok (.invokevirtual 18, 3) := by decide +kernel
theorem dL_law_163 : decode cL_law 163 = .ok (.aload_n 2, 1) := by decide +kernel
theorem dL_law_164 : decode cL_law 164 = .ok (.invokevirtual 22, 3) := by decide +kernel
theorem dL_law_167 : decode cL_law 167 = .ok (.if_icmp .eq 537, 3) := by decide +kernel
theorem dL_law_170 : decode cL_law 170 = .ok (.iconst 0, 1) := by decide +kernel
theorem dL_law_171 : decode cL_law 171 = .ok (.ireturn, 1) := by decide +kernel
theorem dL_law_172 : decode cL_law 172 = .ok (.aload_n 1, 1) := by decide +kernel
theorem dL_law_173 : decode cL_law 173 = .ok (.invokevirtual 23, 3) := by decide +kernel
theorem dL_law_176 : decode cL_law 176 = .ok (.aload_n 2, 1) := by decide +kernel
theorem dL_law_177 : decode cL_law 177 = .ok (.invokevirtual 26, 3) := by decide +kernel
theorem dL_law_180 : decode cL_law 180 = .ok (.if_icmp .eq 524, 3) := by decide +kernel
theorem dL_law_183 : decode cL_law 183 = .ok (.iconst 0, 1) := by decide +kernel
theorem dL_law_184 : decode cL_law 184 = .ok (.ireturn, 1) := by decide +kernel
theorem dL_law_185 : decode cL_law 185 = .ok (.aload_n 1, 1) := by decide +kernel
theorem dL_law_186 : decode cL_law 186 = .ok (.invokevirtual 27, 3) := by decide +kernel
theorem dL_law_189 : decode cL_law 189 = .ok (.aload_n 2, 1) := by decide +kernel
theorem dL_law_190 : decode cL_law 190 = .ok (.invokevirtual 30, 3) := by decide +kernel
theorem dL_law_193 : decode cL_law 193 = .ok (.if_icmp .eq 511, 3) := by decide +kernel
theorem dL_law_196 : decode cL_law 196 = .ok (.iconst 0, 1) := by decide +kernel
theorem dL_law_197 : decode cL_law 197 = .ok (.ireturn, 1) := by decide +kernel
theorem dL_law_198 : decode cL_law 198 = .ok (.aload_n 1, 1) := by decide +kernel
theorem dL_law_199 : decode cL_law 199 = .ok (.aload_n 0, 1) := by decide +kernel
theorem dL_law_200 : decode cL_law 200 = .ok (.iload_n 3, 1) := by decide +kernel
theorem dL_law_201 : decode cL_law 201 = .ok (.iconst 1, 1) := by decide +kernel
theorem dL_law_202 : decode cL_law 202 = .ok (.iadd, 1) := by decide +kernel
theorem dL_law_203 : decode cL_law 203 = .ok (.iaload, 1) := by decide +kernel
theorem dL_law_204 : decode cL_law 204 = .ok (.aload_n 0, 1) := by decide +kernel
theorem dL_law_205 : decode cL_law 205 = .ok (.iload_n 3, 1) := by decide +kernel
theorem dL_law_206 : decode cL_law 206 = .ok (.iconst 2, 1) := by decide +kernel
theorem dL_law_207 : decode cL_law 207 = .ok (.iadd, 1) := by decide +kernel
theorem dL_law_208 : decode cL_law 208 = .ok (.iaload, 1) := by decide +kernel
theorem dL_law_209 : decode cL_law 209 = .ok (.aload_n 0, 1) := by decide +kernel
theorem dL_law_210 : decode cL_law 210 = .ok (.iload_n 3, 1) := by decide +kernel
theorem dL_law_211 : decode cL_law 211 = .ok (.iconst 3, 1) := by decide +kernel
theorem dL_law_212 : decode cL_law 212 = .ok (.iadd, 1) := by decide +kernel
theorem dL_law_213 : decode cL_law 213 = .ok (.iaload, 1) := by decide +kernel
theorem dL_law_214 : decode cL_law 214 = .ok (.invokevirtual 31, 3) := by decide +kernel
theorem dL_law_217 : decode cL_law 217 = .ok (.aload_n 2, 1) := by decide +kernel
theorem dL_law_218 : decode cL_law 218 = .ok (.aload_n 0, 1) := by decide +kernel
theorem dL_law_219 : decode cL_law 219 = .ok (.iload_n 3, 1) := by decide +kernel
theorem dL_law_220 : decode cL_law 220 = .ok (.iconst 1, 1) := by decide +kernel
theorem dL_law_221 : decode cL_law 221 = .ok (.iadd, 1) := by decide +kernel
theorem dL_law_222 : decode cL_law 222 = .ok (.iaload, 1) := by decide +kernel
theorem dL_law_223 : decode cL_law 223 = .ok (.aload_n 0, 1) := by decide +kernel
theorem dL_law_224 : decode cL_law 224 = .ok (.iload_n 3, 1) := by decide +kernel
theorem dL_law_225 : decode cL_law 225 = .ok (.iconst 2, 1) := by decide +kernel
theorem dL_law_226 : decode cL_law 226 = .ok (.iadd, 1) := by decide +kernel
theorem dL_law_227 : decode cL_law 227 = .ok (.iaload, 1) := by decide +kernel
theorem dL_law_228 : decode cL_law 228 = .ok (.aload_n 0, 1) := by decide +kernel
theorem dL_law_229 : decode cL_law 229 = .ok (.iload_n 3, 1) := by decide +kernel
theorem dL_law_230 : decode cL_law 230 = .ok (.iconst 3, 1) := by decide +kernel
theorem dL_law_231 : decode cL_law 231 = .ok (.iadd, 1) := by decide +kernel
theorem dL_law_232 : decode cL_law 232 = .ok (.iaload, 1) := by decide +kernel
theorem dL_law_233 : decode cL_law 233 = .ok (.invokevirtual 35, 3) := by decide +kernel
theorem dL_law_236 : decode cL_law 236 = .ok (.if_icmp .eq 468, 3) := by decide +kernel
theorem dL_law_239 : decode cL_law 239 = .ok (.iconst 0, 1) := by decide +kernel
theorem dL_law_240 : decode cL_law 240 = .ok (.ireturn, 1) := by decide +kernel
theorem dL_law_241 : decode cL_law 241 = .ok (.aload_n 1, 1) := by decide +kernel
theorem dL_law_242 : decode cL_law 242 = .ok (.aload_n 0, 1) := by decide +kernel
theorem dL_law_243 : decode cL_law 243 = .ok (.iload_n 3, 1) := by decide +kernel
theorem dL_law_244 : decode cL_law 244 = .ok (.iconst 1, 1) := by decide +kernel
theorem dL_law_245 : decode cL_law 245 = .ok (.iadd, 1) := by decide +kernel
theorem dL_law_246 : decode cL_law 246 = .ok (.iaload, 1) := by decide +kernel
theorem dL_law_247 : decode cL_law 247 = .ok (.aload_n 0, 1) := by decide +kernel
theorem dL_law_248 : decode cL_law 248 = .ok (.iload_n 3, 1) := by decide +kernel
theorem dL_law_249 : decode cL_law 249 = .ok (.iconst 2, 1) := by decide +kernel
theorem dL_law_250 : decode cL_law 250 = .ok (.iadd, 1) := by decide +kernel
theorem dL_law_251 : decode cL_law 251 = .ok (.iaload, 1) := by decide +kernel
theorem dL_law_252 : decode cL_law 252 = .ok (.invokevirtual 36, 3) := by decide +kernel
theorem dL_law_255 : decode cL_law 255 = .ok (.aload_n 2, 1) := by decide +kernel
theorem dL_law_256 : decode cL_law 256 = .ok (.aload_n 0, 1) := by decide +kernel
theorem dL_law_257 : decode cL_law 257 = .ok (.iload_n 3, 1) := by decide +kernel
theorem dL_law_258 : decode cL_law 258 = .ok (.iconst 1, 1) := by decide +kernel
theorem dL_law_259 : decode cL_law 259 = .ok (.iadd, 1) := by decide +kernel
theorem dL_law_260 : decode cL_law 260 = .ok (.iaload, 1) := by decide +kernel
theorem dL_law_261 : decode cL_law 261 = .ok (.aload_n 0, 1) := by decide +kernel
theorem dL_law_262 : decode cL_law 262 = .ok (.iload_n 3, 1) := by decide +kernel
theorem dL_law_263 : decode cL_law 263 = .ok (.iconst 2, 1) := by decide +kernel
theorem dL_law_264 : decode cL_law 264 = .ok (.iadd, 1) := by decide +kernel
theorem dL_law_265 : decode cL_law 265 = .ok (.iaload, 1) := by decide +kernel
theorem dL_law_266 : decode cL_law 266 = .ok (.invokevirtual 40, 3) := by decide +kernel
theorem dL_law_269 : decode cL_law 269 = .ok (.if_icmp .eq 435, 3) := by decide +kernel
theorem dL_law_272 : decode cL_law 272 = .ok (.iconst 0, 1) := by decide +kernel
theorem dL_law_273 : decode cL_law 273 = .ok (.ireturn, 1) := by decide +kernel
theorem dL_law_274 : decode cL_law 274 = .ok (.aload_n 1, 1) := by decide +kernel
theorem dL_law_275 : decode cL_law 275 = .ok (.aload_n 0, 1) := by decide +kernel
theorem dL_law_276 : decode cL_law 276 = .ok (.iload_n 3, 1) := by decide +kernel
theorem dL_law_277 : decode cL_law 277 = .ok (.iconst 1, 1) := by decide +kernel
theorem dL_law_278 : decode cL_law 278 = .ok (.iadd, 1) := by decide +kernel
theorem dL_law_279 : decode cL_law 279 = .ok (.iaload, 1) := by decide +kernel
theorem dL_law_280 : decode cL_law 280 = .ok (.aload_n 0, 1) := by decide +kernel
theorem dL_law_281 : decode cL_law 281 = .ok (.iload_n 3, 1) := by decide +kernel
theorem dL_law_282 : decode cL_law 282 = .ok (.iconst 2, 1) := by decide +kernel
theorem dL_law_283 : decode cL_law 283 = .ok (.iadd, 1) := by decide +kernel
theorem dL_law_284 : decode cL_law 284 = .ok (.iaload, 1) := by decide +kernel
theorem dL_law_285 : decode cL_law 285 = .ok (.invokevirtual 41, 3) := by decide +kernel
theorem dL_law_288 : decode cL_law 288 = .ok (.aload_n 2, 1) := by decide +kernel
theorem dL_law_289 : decode cL_law 289 = .ok (.aload_n 0, 1) := by decide +kernel
theorem dL_law_290 : decode cL_law 290 = .ok (.iload_n 3, 1) := by decide +kernel
theorem dL_law_291 : decode cL_law 291 = .ok (.iconst 1, 1) := by decide +kernel
theorem dL_law_292 : decode cL_law 292 = .ok (.iadd, 1) := by decide +kernel
theorem dL_law_293 : decode cL_law 293 = .ok (.iaload, 1) := by decide +kernel
theorem dL_law_294 : decode cL_law 294 = .ok (.aload_n 0, 1) := by decide +kernel
theorem dL_law_295 : decode cL_law 295 = .ok (.iload_n 3, 1) := by decide +kernel
theorem dL_law_296 : decode cL_law 296 = .ok (.iconst 2, 1) := by decide +kernel
theorem dL_law_297 : decode cL_law 297 = .ok (.iadd, 1) := by decide +kernel
theorem dL_law_298 : decode cL_law 298 = .ok (.iaload, 1) := by decide +kernel
theorem dL_law_299 : decode cL_law 299 = .ok (.invokevirtual 44, 3) := by decide +kernel
theorem dL_law_302 : decode cL_law 302 = .ok (.if_icmp .eq 402, 3) := by decide +kernel
theorem dL_law_305 : decode cL_law 305 = .ok (.iconst 0, 1) := by decide +kernel
theorem dL_law_306 : decode cL_law 306 = .ok (.ireturn, 1) := by decide +kernel
theorem dL_law_307 : decode cL_law 307 = .ok (.aload_n 1, 1) := by decide +kernel
theorem dL_law_308 : decode cL_law 308 = .ok (.aload_n 0, 1) := by decide +kernel
theorem dL_law_309 : decode cL_law 309 = .ok (.iload_n 3, 1) := by decide +kernel
theorem dL_law_310 : decode cL_law 310 = .ok (.iconst 1, 1) := by decide +kernel
theorem dL_law_311 : decode cL_law 311 = .ok (.iadd, 1) := by decide +kernel
theorem dL_law_312 : decode cL_law 312 = .ok (.iaload, 1) := by decide +kernel
theorem dL_law_313 : decode cL_law 313 = .ok (.aload_n 0, 1) := by decide +kernel
theorem dL_law_314 : decode cL_law 314 = .ok (.iload_n 3, 1) := by decide +kernel
theorem dL_law_315 : decode cL_law 315 = .ok (.iconst 2, 1) := by decide +kernel
theorem dL_law_316 : decode cL_law 316 = .ok (.iadd, 1) := by decide +kernel
theorem dL_law_317 : decode cL_law 317 = .ok (.iaload, 1) := by decide +kernel
theorem dL_law_318 : decode cL_law 318 = .ok (.invokevirtual 45, 3) := by decide +kernel
theorem dL_law_321 : decode cL_law 321 = .ok (.aload_n 2, 1) := by decide +kernel
theorem dL_law_322 : decode cL_law 322 = .ok (.aload_n 0, 1) := by decide +kernel
theorem dL_law_323 : decode cL_law 323 = .ok (.iload_n 3, 1) := by decide +kernel
theorem dL_law_324 : decode cL_law 324 = .ok (.iconst 1, 1) := by decide +kernel
theorem dL_law_325 : decode cL_law 325 = .ok (.iadd, 1) := by decide +kernel
theorem dL_law_326 : decode cL_law 326 = .ok (.iaload, 1) := by decide +kernel
theorem dL_law_327 : decode cL_law 327 = .ok (.aload_n 0, 1) := by decide +kernel
theorem dL_law_328 : decode cL_law 328 = .ok (.iload_n 3, 1) := by decide +kernel
theorem dL_law_329 : decode cL_law 329 = .ok (.iconst 2, 1) := by decide +kernel
theorem dL_law_330 : decode cL_law 330 = .ok (.iadd, 1) := by decide +kernel
theorem dL_law_331 : decode cL_law 331 = .ok (.iaload, 1) := by decide +kernel
theorem dL_law_332 : decode cL_law 332 = .ok (.invokevirtual 48, 3) := by decide +kernel
theorem dL_law_335 : decode cL_law 335 = .ok (.if_icmp .eq 369, 3) := by decide +kernel
theorem dL_law_338 : decode cL_law 338 = .ok (.iconst 0, 1) := by decide +kernel
theorem dL_law_339 : decode cL_law 339 = .ok (.ireturn, 1) := by decide +kernel
theorem dL_law_340 : decode cL_law 340 = .ok (.aload_n 1, 1) := by decide +kernel
theorem dL_law_341 : decode cL_law 341 = .ok (.aload_n 0, 1) := by decide +kernel
theorem dL_law_342 : decode cL_law 342 = .ok (.iload_n 3, 1) := by decide +kernel
theorem dL_law_343 : decode cL_law 343 = .ok (.iconst 1, 1) := by decide +kernel
theorem dL_law_344 : decode cL_law 344 = .ok (.iadd, 1) := by decide +kernel
theorem dL_law_345 : decode cL_law 345 = .ok (.iaload, 1) := by decide +kernel
theorem dL_law_346 : decode cL_law 346 = .ok (.aload_n 0, 1) := by decide +kernel
theorem dL_law_347 : decode cL_law 347 = .ok (.iload_n 3, 1) := by decide +kernel
theorem dL_law_348 : decode cL_law 348 = .ok (.iconst 2, 1) := by decide +kernel
theorem dL_law_349 : decode cL_law 349 = .ok (.iadd, 1) := by decide +kernel
theorem dL_law_350 : decode cL_law 350 = .ok (.iaload, 1) := by decide +kernel
theorem dL_law_351 : decode cL_law 351 = .ok (.invokevirtual 49, 3) := by decide +kernel
theorem dL_law_354 : decode cL_law 354 = .ok (.aload_n 2, 1) := by decide +kernel
theorem dL_law_355 : decode cL_law 355 = .ok (.aload_n 0, 1) := by decide +kernel
theorem dL_law_356 : decode cL_law 356 = .ok (.iload_n 3, 1) := by decide +kernel
theorem dL_law_357 : decode cL_law 357 = .ok (.iconst 1, 1) := by decide +kernel
theorem dL_law_358 : decode cL_law 358 = .ok (.iadd, 1) := by decide +kernel
theorem dL_law_359 : decode cL_law 359 = .ok (.iaload, 1) := by decide +kernel
theorem dL_law_360 : decode cL_law 360 = .ok (.aload_n 0, 1) := by decide +kernel
theorem dL_law_361 : decode cL_law 361 = .ok (.iload_n 3, 1) := by decide +kernel
theorem dL_law_362 : decode cL_law 362 = .ok (.iconst 2, 1) := by decide +kernel
theorem dL_law_363 : decode cL_law 363 = .ok (.iadd, 1) := by decide +kernel
theorem dL_law_364 : decode cL_law 364 = .ok (.iaload, 1) := by decide +kernel
theorem dL_law_365 : decode cL_law 365 = .ok (.invokevirtual 52, 3) := by decide +kernel
theorem dL_law_368 : decode cL_law 368 = .ok (.if_icmp .eq 336, 3) := by decide +kernel
theorem dL_law_371 : decode cL_law 371 = .ok (.iconst 0, 1) := by decide +kernel
theorem dL_law_372 : decode cL_law 372 = .ok (.ireturn, 1) := by decide +kernel
theorem dL_law_373 : decode cL_law 373 = .ok (.aload_n 1, 1) := by decide +kernel
theorem dL_law_374 : decode cL_law 374 = .ok (.aload_n 0, 1) := by decide +kernel
theorem dL_law_375 : decode cL_law 375 = .ok (.iload_n 3, 1) := by decide +kernel
theorem dL_law_376 : decode cL_law 376 = .ok (.iconst 1, 1) := by decide +kernel
theorem dL_law_377 : decode cL_law 377 = .ok (.iadd, 1) := by decide +kernel
theorem dL_law_378 : decode cL_law 378 = .ok (.iaload, 1) := by decide +kernel
theorem dL_law_379 : decode cL_law 379 = .ok (.aload_n 0, 1) := by decide +kernel
theorem dL_law_380 : decode cL_law 380 = .ok (.iload_n 3, 1) := by decide +kernel
theorem dL_law_381 : decode cL_law 381 = .ok (.iconst 2, 1) := by decide +kernel
theorem dL_law_382 : decode cL_law 382 = .ok (.iadd, 1) := by decide +kernel
theorem dL_law_383 : decode cL_law 383 = .ok (.iaload, 1) := by decide +kernel
theorem dL_law_384 : decode cL_law 384 = .ok (.invokevirtual 53, 3) := by decide +kernel
theorem dL_law_387 : decode cL_law 387 = .ok (.aload_n 2, 1) := by decide +kernel
theorem dL_law_388 : decode cL_law 388 = .ok (.aload_n 0, 1) := by decide +kernel
theorem dL_law_389 : decode cL_law 389 = .ok (.iload_n 3, 1) := by decide +kernel
theorem dL_law_390 : decode cL_law 390 = .ok (.iconst 1, 1) := by decide +kernel
theorem dL_law_391 : decode cL_law 391 = .ok (.iadd, 1) := by decide +kernel
theorem dL_law_392 : decode cL_law 392 = .ok (.iaload, 1) := by decide +kernel
theorem dL_law_393 : decode cL_law 393 = .ok (.aload_n 0, 1) := by decide +kernel
theorem dL_law_394 : decode cL_law 394 = .ok (.iload_n 3, 1) := by decide +kernel
theorem dL_law_395 : decode cL_law 395 = .ok (.iconst 2, 1) := by decide +kernel
theorem dL_law_396 : decode cL_law 396 = .ok (.iadd, 1) := by decide +kernel
theorem dL_law_397 : decode cL_law 397 = .ok (.iaload, 1) := by decide +kernel
theorem dL_law_398 : decode cL_law 398 = .ok (.invokevirtual 56, 3) := by decide +kernel
theorem dL_law_401 : decode cL_law 401 = .ok (.if_icmp .eq 303, 3) := by decide +kernel
theorem dL_law_404 : decode cL_law 404 = .ok (.iconst 0, 1) := by decide +kernel
theorem dL_law_405 : decode cL_law 405 = .ok (.ireturn, 1) := by decide +kernel
theorem dL_law_406 : decode cL_law 406 = .ok (.aload_n 1, 1) := by decide +kernel
theorem dL_law_407 : decode cL_law 407 = .ok (.aload_n 0, 1) := by decide +kernel
theorem dL_law_408 : decode cL_law 408 = .ok (.iload_n 3, 1) := by decide +kernel
theorem dL_law_409 : decode cL_law 409 = .ok (.iconst 1, 1) := by decide +kernel
theorem dL_law_410 : decode cL_law 410 = .ok (.iadd, 1) := by decide +kernel
theorem dL_law_411 : decode cL_law 411 = .ok (.iaload, 1) := by decide +kernel
theorem dL_law_412 : decode cL_law 412 = .ok (.aload_n 0, 1) := by decide +kernel
theorem dL_law_413 : decode cL_law 413 = .ok (.iload_n 3, 1) := by decide +kernel
theorem dL_law_414 : decode cL_law 414 = .ok (.iconst 2, 1) := by decide +kernel
theorem dL_law_415 : decode cL_law 415 = .ok (.iadd, 1) := by decide +kernel
theorem dL_law_416 : decode cL_law 416 = .ok (.iaload, 1) := by decide +kernel
theorem dL_law_417 : decode cL_law 417 = .ok (.aload_n 0, 1) := by decide +kernel
theorem dL_law_418 : decode cL_law 418 = .ok (.iload_n 3, 1) := by decide +kernel
theorem dL_law_419 : decode cL_law 419 = .ok (.iconst 3, 1) := by decide +kernel
theorem dL_law_420 : decode cL_law 420 = .ok (.iadd, 1) := by decide +kernel
theorem dL_law_421 : decode cL_law 421 = .ok (.iaload, 1) := by decide +kernel
theorem dL_law_422 : decode cL_law 422 = .ok (.invokevirtual 57, 3) := by decide +kernel
theorem dL_law_425 : decode cL_law 425 = .ok (.aload_n 2, 1) := by decide +kernel
theorem dL_law_426 : decode cL_law 426 = .ok (.aload_n 0, 1) := by decide +kernel
theorem dL_law_427 : decode cL_law 427 = .ok (.iload_n 3, 1) := by decide +kernel
theorem dL_law_428 : decode cL_law 428 = .ok (.iconst 1, 1) := by decide +kernel
theorem dL_law_429 : decode cL_law 429 = .ok (.iadd, 1) := by decide +kernel
theorem dL_law_430 : decode cL_law 430 = .ok (.iaload, 1) := by decide +kernel
theorem dL_law_431 : decode cL_law 431 = .ok (.aload_n 0, 1) := by decide +kernel
theorem dL_law_432 : decode cL_law 432 = .ok (.iload_n 3, 1) := by decide +kernel
theorem dL_law_433 : decode cL_law 433 = .ok (.iconst 2, 1) := by decide +kernel
theorem dL_law_434 : decode cL_law 434 = .ok (.iadd, 1) := by decide +kernel
theorem dL_law_435 : decode cL_law 435 = .ok (.iaload, 1) := by decide +kernel
theorem dL_law_436 : decode cL_law 436 = .ok (.aload_n 0, 1) := by decide +kernel
theorem dL_law_437 : decode cL_law 437 = .ok (.iload_n 3, 1) := by decide +kernel
theorem dL_law_438 : decode cL_law 438 = .ok (.iconst 3, 1) := by decide +kernel
theorem dL_law_439 : decode cL_law 439 = .ok (.iadd, 1) := by decide +kernel
theorem dL_law_440 : decode cL_law 440 = .ok (.iaload, 1) := by decide +kernel
theorem dL_law_441 : decode cL_law 441 = .ok (.invokevirtual 60, 3) := by decide +kernel
theorem dL_law_444 : decode cL_law 444 = .ok (.if_icmp .eq 260, 3) := by decide +kernel
theorem dL_law_447 : decode cL_law 447 = .ok (.iconst 0, 1) := by decide +kernel
theorem dL_law_448 : decode cL_law 448 = .ok (.ireturn, 1) := by decide +kernel
theorem dL_law_449 : decode cL_law 449 = .ok (.aload_n 1, 1) := by decide +kernel
theorem dL_law_450 : decode cL_law 450 = .ok (.aload_n 0, 1) := by decide +kernel
theorem dL_law_451 : decode cL_law 451 = .ok (.iload_n 3, 1) := by decide +kernel
theorem dL_law_452 : decode cL_law 452 = .ok (.iconst 1, 1) := by decide +kernel
theorem dL_law_453 : decode cL_law 453 = .ok (.iadd, 1) := by decide +kernel
theorem dL_law_454 : decode cL_law 454 = .ok (.iaload, 1) := by decide +kernel
theorem dL_law_455 : decode cL_law 455 = .ok (.aload_n 0, 1) := by decide +kernel
theorem dL_law_456 : decode cL_law 456 = .ok (.iload_n 3, 1) := by decide +kernel
theorem dL_law_457 : decode cL_law 457 = .ok (.iconst 2, 1) := by decide +kernel
theorem dL_law_458 : decode cL_law 458 = .ok (.iadd, 1) := by decide +kernel
theorem dL_law_459 : decode cL_law 459 = .ok (.iaload, 1) := by decide +kernel
theorem dL_law_460 : decode cL_law 460 = .ok (.invokevirtual 61, 3) := by decide +kernel
theorem dL_law_463 : decode cL_law 463 = .ok (.aload_n 2, 1) := by decide +kernel
theorem dL_law_464 : decode cL_law 464 = .ok (.aload_n 0, 1) := by decide +kernel
theorem dL_law_465 : decode cL_law 465 = .ok (.iload_n 3, 1) := by decide +kernel
theorem dL_law_466 : decode cL_law 466 = .ok (.iconst 1, 1) := by decide +kernel
theorem dL_law_467 : decode cL_law 467 = .ok (.iadd, 1) := by decide +kernel
theorem dL_law_468 : decode cL_law 468 = .ok (.iaload, 1) := by decide +kernel
theorem dL_law_469 : decode cL_law 469 = .ok (.aload_n 0, 1) := by decide +kernel
theorem dL_law_470 : decode cL_law 470 = .ok (.iload_n 3, 1) := by decide +kernel
theorem dL_law_471 : decode cL_law 471 = .ok (.iconst 2, 1) := by decide +kernel
theorem dL_law_472 : decode cL_law 472 = .ok (.iadd, 1) := by decide +kernel
theorem dL_law_473 : decode cL_law 473 = .ok (.iaload, 1) := by decide +kernel
theorem dL_law_474 : decode cL_law 474 = .ok (.invokevirtual 64, 3) := by decide +kernel
theorem dL_law_477 : decode cL_law 477 = .ok (.if_icmp .eq 227, 3) := by decide +kernel
theorem dL_law_480 : decode cL_law 480 = .ok (.iconst 0, 1) := by decide +kernel
theorem dL_law_481 : decode cL_law 481 = .ok (.ireturn, 1) := by decide +kernel
theorem dL_law_482 : decode cL_law 482 = .ok (.aload_n 1, 1) := by decide +kernel
theorem dL_law_483 : decode cL_law 483 = .ok (.aload_n 0, 1) := by decide +kernel
theorem dL_law_484 : decode cL_law 484 = .ok (.iload_n 3, 1) := by decide +kernel
theorem dL_law_485 : decode cL_law 485 = .ok (.iconst 1, 1) := by decide +kernel
theorem dL_law_486 : decode cL_law 486 = .ok (.iadd, 1) := by decide +kernel
theorem dL_law_487 : decode cL_law 487 = .ok (.iaload, 1) := by decide +kernel
theorem dL_law_488 : decode cL_law 488 = .ok (.aload_n 0, 1) := by decide +kernel
theorem dL_law_489 : decode cL_law 489 = .ok (.iload_n 3, 1) := by decide +kernel
theorem dL_law_490 : decode cL_law 490 = .ok (.iconst 2, 1) := by decide +kernel
theorem dL_law_491 : decode cL_law 491 = .ok (.iadd, 1) := by decide +kernel
theorem dL_law_492 : decode cL_law 492 = .ok (.iaload, 1) := by decide +kernel
theorem dL_law_493 : decode cL_law 493 = .ok (.aload_n 0, 1) := by decide +kernel
theorem dL_law_494 : decode cL_law 494 = .ok (.iload_n 3, 1) := by decide +kernel
theorem dL_law_495 : decode cL_law 495 = .ok (.iconst 3, 1) := by decide +kernel
theorem dL_law_496 : decode cL_law 496 = .ok (.iadd, 1) := by decide +kernel
theorem dL_law_497 : decode cL_law 497 = .ok (.iaload, 1) := by decide +kernel
theorem dL_law_498 : decode cL_law 498 = .ok (.invokevirtual 65, 3) := by decide +kernel
theorem dL_law_501 : decode cL_law 501 = .ok (.aload_n 2, 1) := by decide +kernel
theorem dL_law_502 : decode cL_law 502 = .ok (.aload_n 0, 1) := by decide +kernel
theorem dL_law_503 : decode cL_law 503 = .ok (.iload_n 3, 1) := by decide +kernel
theorem dL_law_504 : decode cL_law 504 = .ok (.iconst 1, 1) := by decide +kernel
theorem dL_law_505 : decode cL_law 505 = .ok (.iadd, 1) := by decide +kernel
theorem dL_law_506 : decode cL_law 506 = .ok (.iaload, 1) := by decide +kernel
theorem dL_law_507 : decode cL_law 507 = .ok (.aload_n 0, 1) := by decide +kernel
theorem dL_law_508 : decode cL_law 508 = .ok (.iload_n 3, 1) := by decide +kernel
theorem dL_law_509 : decode cL_law 509 = .ok (.iconst 2, 1) := by decide +kernel
theorem dL_law_510 : decode cL_law 510 = .ok (.iadd, 1) := by decide +kernel
theorem dL_law_511 : decode cL_law 511 = .ok (.iaload, 1) := by decide +kernel
theorem dL_law_512 : decode cL_law 512 = .ok (.aload_n 0, 1) := by decide +kernel
theorem dL_law_513 : decode cL_law 513 = .ok (.iload_n 3, 1) := by decide +kernel
theorem dL_law_514 : decode cL_law 514 = .ok (.iconst 3, 1) := by decide +kernel
theorem dL_law_515 : decode cL_law 515 = .ok (.iadd, 1) := by decide +kernel
theorem dL_law_516 : decode cL_law 516 = .ok (.iaload, 1) := by decide +kernel
theorem dL_law_517 : decode cL_law 517 = .ok (.invokevirtual 68, 3) := by decide +kernel
theorem dL_law_520 : decode cL_law 520 = .ok (.if_icmp .eq 184, 3) := by decide +kernel
theorem dL_law_523 : decode cL_law 523 = .ok (.iconst 0, 1) := by decide +kernel
theorem dL_law_524 : decode cL_law 524 = .ok (.ireturn, 1) := by decide +kernel
theorem dL_law_525 : decode cL_law 525 = .ok (.aload_n 1, 1) := by decide +kernel
theorem dL_law_526 : decode cL_law 526 = .ok (.invokevirtual 69, 3) := by decide +kernel
theorem dL_law_529 : decode cL_law 529 = .ok (.aload_n 2, 1) := by decide +kernel
theorem dL_law_530 : decode cL_law 530 = .ok (.invokevirtual 72, 3) := by decide +kernel
theorem dL_law_533 : decode cL_law 533 = .ok (.if_icmp .eq 171, 3) := by decide +kernel
theorem dL_law_536 : decode cL_law 536 = .ok (.iconst 0, 1) := by decide +kernel
theorem dL_law_537 : decode cL_law 537 = .ok (.ireturn, 1) := by decide +kernel
theorem dL_law_538 : decode cL_law 538 = .ok (.aload_n 1, 1) := by decide +kernel
theorem dL_law_539 : decode cL_law 539 = .ok (.aload_n 0, 1) := by decide +kernel
theorem dL_law_540 : decode cL_law 540 = .ok (.iload_n 3, 1) := by decide +kernel
theorem dL_law_541 : decode cL_law 541 = .ok (.iconst 1, 1) := by decide +kernel
theorem dL_law_542 : decode cL_law 542 = .ok (.iadd, 1) := by decide +kernel
theorem dL_law_543 : decode cL_law 543 = .ok (.iaload, 1) := by decide +kernel
theorem dL_law_544 : decode cL_law 544 = .ok (.invokevirtual 73, 3) := by decide +kernel
theorem dL_law_547 : decode cL_law 547 = .ok (.aload_n 2, 1) := by decide +kernel
theorem dL_law_548 : decode cL_law 548 = .ok (.aload_n 0, 1) := by decide +kernel
theorem dL_law_549 : decode cL_law 549 = .ok (.iload_n 3, 1) := by decide +kernel
theorem dL_law_550 : decode cL_law 550 = .ok (.iconst 1, 1) := by decide +kernel
theorem dL_law_551 : decode cL_law 551 = .ok (.iadd, 1) := by decide +kernel
theorem dL_law_552 : decode cL_law 552 = .ok (.iaload, 1) := by decide +kernel
theorem dL_law_553 : decode cL_law 553 = .ok (.invokevirtual 76, 3) := by decide +kernel
theorem dL_law_556 : decode cL_law 556 = .ok (.if_icmp .eq 148, 3) := by decide +kernel
theorem dL_law_559 : decode cL_law 559 = .ok (.iconst 0, 1) := by decide +kernel
theorem dL_law_560 : decode cL_law 560 = .ok (.ireturn, 1) := by decide +kernel
theorem dL_law_561 : decode cL_law 561 = .ok (.aload_n 1, 1) := by decide +kernel
theorem dL_law_562 : decode cL_law 562 = .ok (.aload_n 0, 1) := by decide +kernel
theorem dL_law_563 : decode cL_law 563 = .ok (.iload_n 3, 1) := by decide +kernel
theorem dL_law_564 : decode cL_law 564 = .ok (.iconst 1, 1) := by decide +kernel
theorem dL_law_565 : decode cL_law 565 = .ok (.iadd, 1) := by decide +kernel
theorem dL_law_566 : decode cL_law 566 = .ok (.iaload, 1) := by decide +kernel
theorem dL_law_567 : decode cL_law 567 = .ok (.invokevirtual 77, 3) := by decide +kernel
theorem dL_law_570 : decode cL_law 570 = .ok (.aload_n 2, 1) := by decide +kernel
theorem dL_law_571 : decode cL_law 571 = .ok (.aload_n 0, 1) := by decide +kernel
theorem dL_law_572 : decode cL_law 572 = .ok (.iload_n 3, 1) := by decide +kernel
theorem dL_law_573 : decode cL_law 573 = .ok (.iconst 1, 1) := by decide +kernel
theorem dL_law_574 : decode cL_law 574 = .ok (.iadd, 1) := by decide +kernel
theorem dL_law_575 : decode cL_law 575 = .ok (.iaload, 1) := by decide +kernel
theorem dL_law_576 : decode cL_law 576 = .ok (.invokevirtual 80, 3) := by decide +kernel
theorem dL_law_579 : decode cL_law 579 = .ok (.if_icmp .eq 125, 3) := by decide +kernel
theorem dL_law_582 : decode cL_law 582 = .ok (.iconst 0, 1) := by decide +kernel
theorem dL_law_583 : decode cL_law 583 = .ok (.ireturn, 1) := by decide +kernel
theorem dL_law_584 : decode cL_law 584 = .ok (.aload_n 1, 1) := by decide +kernel
theorem dL_law_585 : decode cL_law 585 = .ok (.invokevirtual 81, 3) := by decide +kernel
theorem dL_law_588 : decode cL_law 588 = .ok (.aload_n 2, 1) := by decide +kernel
theorem dL_law_589 : decode cL_law 589 = .ok (.invokevirtual 85, 3) := by decide +kernel
theorem dL_law_592 : decode cL_law 592 = .ok (.lcmp, 1) := by decide +kernel
theorem dL_law_593 : decode cL_law 593 = .ok (.ifCond .eq 111, 3) := by decide +kernel
theorem dL_law_596 : decode cL_law 596 = .ok (.iconst 0, 1) := by decide +kernel
theorem dL_law_597 : decode cL_law 597 = .ok (.ireturn, 1) := by decide +kernel
theorem dL_law_598 : decode cL_law 598 = .ok (.aload_n 1, 1) := by decide +kernel
theorem dL_law_599 : decode cL_law 599 = .ok (.aload_n 0, 1) := by decide +kernel
theorem dL_law_600 : decode cL_law 600 = .ok (.iload_n 3, 1) := by decide +kernel
theorem dL_law_601 : decode cL_law 601 = .ok (.iconst 1, 1) := by decide +kernel
theorem dL_law_602 : decode cL_law 602 = .ok (.iadd, 1) := by decide +kernel
theorem dL_law_603 : decode cL_law 603 = .ok (.iaload, 1) := by decide +kernel
theorem dL_law_604 : decode cL_law 604 = .ok (.aload_n 0, 1) := by decide +kernel
theorem dL_law_605 : decode cL_law 605 = .ok (.iload_n 3, 1) := by decide +kernel
theorem dL_law_606 : decode cL_law 606 = .ok (.iconst 2, 1) := by decide +kernel
theorem dL_law_607 : decode cL_law 607 = .ok (.iadd, 1) := by decide +kernel
theorem dL_law_608 : decode cL_law 608 = .ok (.iaload, 1) := by decide +kernel
theorem dL_law_609 : decode cL_law 609 = .ok (.aload_n 0, 1) := by decide +kernel
theorem dL_law_610 : decode cL_law 610 = .ok (.iload_n 3, 1) := by decide +kernel
theorem dL_law_611 : decode cL_law 611 = .ok (.iconst 3, 1) := by decide +kernel
theorem dL_law_612 : decode cL_law 612 = .ok (.iadd, 1) := by decide +kernel
theorem dL_law_613 : decode cL_law 613 = .ok (.iaload, 1) := by decide +kernel
theorem dL_law_614 : decode cL_law 614 = .ok (.invokevirtual 86, 3) := by decide +kernel
theorem dL_law_617 : decode cL_law 617 = .ok (.aload_n 2, 1) := by decide +kernel
theorem dL_law_618 : decode cL_law 618 = .ok (.aload_n 0, 1) := by decide +kernel
theorem dL_law_619 : decode cL_law 619 = .ok (.iload_n 3, 1) := by decide +kernel
theorem dL_law_620 : decode cL_law 620 = .ok (.iconst 1, 1) := by decide +kernel
theorem dL_law_621 : decode cL_law 621 = .ok (.iadd, 1) := by decide +kernel
theorem dL_law_622 : decode cL_law 622 = .ok (.iaload, 1) := by decide +kernel
theorem dL_law_623 : decode cL_law 623 = .ok (.aload_n 0, 1) := by decide +kernel
theorem dL_law_624 : decode cL_law 624 = .ok (.iload_n 3, 1) := by decide +kernel
theorem dL_law_625 : decode cL_law 625 = .ok (.iconst 2, 1) := by decide +kernel
theorem dL_law_626 : decode cL_law 626 = .ok (.iadd, 1) := by decide +kernel
theorem dL_law_627 : decode cL_law 627 = .ok (.iaload, 1) := by decide +kernel
theorem dL_law_628 : decode cL_law 628 = .ok (.aload_n 0, 1) := by decide +kernel
theorem dL_law_629 : decode cL_law 629 = .ok (.iload_n 3, 1) := by decide +kernel
theorem dL_law_630 : decode cL_law 630 = .ok (.iconst 3, 1) := by decide +kernel
theorem dL_law_631 : decode cL_law 631 = .ok (.iadd, 1) := by decide +kernel
theorem dL_law_632 : decode cL_law 632 = .ok (.iaload, 1) := by decide +kernel
theorem dL_law_633 : decode cL_law 633 = .ok (.invokevirtual 89, 3) := by decide +kernel
theorem dL_law_636 : decode cL_law 636 = .ok (.if_icmp .eq 68, 3) := by decide +kernel
theorem dL_law_639 : decode cL_law 639 = .ok (.iconst 0, 1) := by decide +kernel
theorem dL_law_640 : decode cL_law 640 = .ok (.ireturn, 1) := by decide +kernel
theorem dL_law_641 : decode cL_law 641 = .ok (.aload_n 1, 1) := by decide +kernel
theorem dL_law_642 : decode cL_law 642 = .ok (.invokevirtual 90, 3) := by decide +kernel
theorem dL_law_645 : decode cL_law 645 = .ok (.aload_n 2, 1) := by decide +kernel
theorem dL_law_646 : decode cL_law 646 = .ok (.invokevirtual 93, 3) := by decide +kernel
theorem dL_law_649 : decode cL_law 649 = .ok (.if_icmp .eq 55, 3) := by decide +kernel
theorem dL_law_652 : decode cL_law 652 = .ok (.iconst 0, 1) := by decide +kernel
theorem dL_law_653 : decode cL_law 653 = .ok (.ireturn, 1) := by decide +kernel
theorem dL_law_654 : decode cL_law 654 = .ok (.aload_n 1, 1) := by decide +kernel
theorem dL_law_655 : decode cL_law 655 = .ok (.invokevirtual 94, 3) := by decide +kernel
theorem dL_law_658 : decode cL_law 658 = .ok (.aload_n 2, 1) := by decide +kernel
theorem dL_law_659 : decode cL_law 659 = .ok (.invokevirtual 97, 3) := by decide +kernel
theorem dL_law_662 : decode cL_law 662 = .ok (.if_icmp .eq 42, 3) := by decide +kernel
theorem dL_law_665 : decode cL_law 665 = .ok (.iconst 0, 1) := by decide +kernel
theorem dL_law_666 : decode cL_law 666 = .ok (.ireturn, 1) := by decide +kernel
theorem dL_law_667 : decode cL_law 667 = .ok (.aload_n 1, 1) := by decide +kernel
theorem dL_law_668 : decode cL_law 668 = .ok (.aload_n 0, 1) := by decide +kernel
theorem dL_law_669 : decode cL_law 669 = .ok (.iload_n 3, 1) := by decide +kernel
theorem dL_law_670 : decode cL_law 670 = .ok (.iconst 1, 1) := by decide +kernel
theorem dL_law_671 : decode cL_law 671 = .ok (.iadd, 1) := by decide +kernel
theorem dL_law_672 : decode cL_law 672 = .ok (.iaload, 1) := by decide +kernel
theorem dL_law_673 : decode cL_law 673 = .ok (.invokevirtual 98, 3) := by decide +kernel
theorem dL_law_676 : decode cL_law 676 = .ok (.aload_n 2, 1) := by decide +kernel
theorem dL_law_677 : decode cL_law 677 = .ok (.aload_n 0, 1) := by decide +kernel
theorem dL_law_678 : decode cL_law 678 = .ok (.iload_n 3, 1) := by decide +kernel
theorem dL_law_679 : decode cL_law 679 = .ok (.iconst 1, 1) := by decide +kernel
theorem dL_law_680 : decode cL_law 680 = .ok (.iadd, 1) := by decide +kernel
theorem dL_law_681 : decode cL_law 681 = .ok (.iaload, 1) := by decide +kernel
theorem dL_law_682 : decode cL_law 682 = .ok (.invokevirtual 101, 3) := by decide +kernel
theorem dL_law_685 : decode cL_law 685 = .ok (.if_icmp .eq 19, 3) := by decide +kernel
theorem dL_law_688 : decode cL_law 688 = .ok (.iconst 0, 1) := by decide +kernel
theorem dL_law_689 : decode cL_law 689 = .ok (.ireturn, 1) := by decide +kernel
theorem dL_law_690 : decode cL_law 690 = .ok (.aload_n 1, 1) := by decide +kernel
theorem dL_law_691 : decode cL_law 691 = .ok (.invokevirtual 102, 3) := by decide +kernel
theorem dL_law_694 : decode cL_law 694 = .ok (.aload_n 2, 1) := by decide +kernel
theorem dL_law_695 : decode cL_law 695 = .ok (.invokevirtual 105, 3) := by decide +kernel
theorem dL_law_698 : decode cL_law 698 = .ok (.lcmp, 1) := by decide +kernel
theorem dL_law_699 : decode cL_law 699 = .ok (.ifCond .eq 5, 3) := by decide +kernel
theorem dL_law_702 : decode cL_law 702 = .ok (.iconst 0, 1) := by decide +kernel
theorem dL_law_703 : decode cL_law 703 = .ok (.ireturn, 1) := by decide +kernel
theorem dL_law_704 : decode cL_law 704 = .ok (.iinc 3 4, 3) := by decide +kernel
theorem dL_law_707 : decode cL_law 707 = .ok (.goto (-689), 3) := by decide +kernel
theorem dL_law_710 : decode cL_law 710 = .ok (.iconst 1, 1) := by decide +kernel
theorem dL_law_711 : decode cL_law 711 = .ok (.ireturn, 1) := by decide +kernel
end
section
/-! the abstract machine: values, memory, cells by number -/
abbrev AV : Type := Int ⊕ Int ⊕ UInt32 ⊕ UInt64 ⊕ Nat
abbrev vI (z : Int) : AV := Sum.inl z
abbrev vL (z : Int) : AV := Sum.inr (Sum.inl z)
abbrev vF (z : UInt32) : AV := Sum.inr (Sum.inr (Sum.inl z))
abbrev vD (z : UInt64) : AV := Sum.inr (Sum.inr (Sum.inr (Sum.inl z)))
abbrev vR (k : Nat) : AV := Sum.inr (Sum.inr (Sum.inr (Sum.inr k)))
abbrev AM : Type := Nat → Nat → Int
def mU (M : AM) (k j : Nat) (z : Int) : AM := fun k' j' => if k' = k ∧ j' = j then z else M k' j'
def rg (z : Int) : Prop := -2147483648 ≤ z ∧ z < 2147483648
def RM (M : AM) : Prop := ∀ k j, ¬ (k = 88 ∧ j = 32) → rg (M k j)
theorem rg_toInt (x : Int32) : rg x.toInt := ⟨Int32.le_toInt x, Int32.toInt_lt x⟩
theorem rg_back {z : Int} (h : rg z) : (Int32.ofInt z).toInt = z := Int32.toInt_ofInt_of_le h.1 h.2
theorem RM_mU {M : AM} {k j : Nat} {z : Int} (h : RM M) (hz : rg z) : RM (mU M k j z) := by
  intro k' j' hn
  unfold mU
  split
  · exact hz
  · exact h k' j' hn
theorem RM_mUl {M : AM} {z : Int} (h : RM M) : RM (mU M 88 32 z) := by
  intro k' j' hn
  unfold mU
  split
  · next e => exact absurd e hn
  · exact h k' j' hn
/-- a cell's kind: an object (class, fields: a cell, or a number: long or not), a row of ints, a row of rows -/
abbrev AK : Type := (Nat × List (Nat ⊕ Bool)) ⊕ Nat ⊕ (Nat × Nat)
def KD : List AK := [
  .inl (8, [.inl 1, .inl 4, .inl 5, .inl 28, .inl 52, .inl 57, .inl 71, .inl 80, .inr false, .inr false, .inr false]),
  .inl (3, [.inl 2, .inl 3, .inr false]),
  .inr (.inl 64),
  .inl (5, [.inr false, .inr false, .inr false]),
  .inl (2, [.inl 5, .inl 10, .inl 13, .inl 24, .inl 25, .inl 26, .inl 27, .inr false, .inr false]),
  .inl (7, [.inl 6, .inl 9]),
  .inr (.inr (2, 7)),
  .inr (.inl 8),
  .inr (.inl 8),
  .inr (.inl 2),
  .inr (.inr (2, 11)),
  .inr (.inl 8),
  .inr (.inl 8),
  .inl (0, [.inl 14]),
  .inr (.inr (9, 15)),
  .inr (.inl 9),
  .inr (.inl 9),
  .inr (.inl 9),
  .inr (.inl 9),
  .inr (.inl 9),
  .inr (.inl 9),
  .inr (.inl 9),
  .inr (.inl 9),
  .inr (.inl 9),
  .inr (.inl 8),
  .inr (.inl 8),
  .inr (.inl 2),
  .inr (.inl 2),
  .inl (2, [.inl 29, .inl 34, .inl 37, .inl 48, .inl 49, .inl 50, .inl 51, .inr false, .inr false]),
  .inl (7, [.inl 30, .inl 33]),
  .inr (.inr (2, 31)),
  .inr (.inl 8),
  .inr (.inl 8),
  .inr (.inl 2),
  .inr (.inr (2, 35)),
  .inr (.inl 8),
  .inr (.inl 8),
  .inl (0, [.inl 38]),
  .inr (.inr (9, 39)),
  .inr (.inl 9),
  .inr (.inl 9),
  .inr (.inl 9),
  .inr (.inl 9),
  .inr (.inl 9),
  .inr (.inl 9),
  .inr (.inl 9),
  .inr (.inl 9),
  .inr (.inl 9),
  .inr (.inl 8),
  .inr (.inl 8),
  .inr (.inl 2),
  .inr (.inl 2),
  .inl (7, [.inl 53, .inl 56]),
  .inr (.inr (2, 54)),
  .inr (.inl 8),
  .inr (.inl 8),
  .inr (.inl 2),
  .inl (1, [.inl 58, .inl 69, .inl 70]),
  .inl (0, [.inl 59]),
  .inr (.inr (9, 60)),
  .inr (.inl 9),
  .inr (.inl 9),
  .inr (.inl 9),
  .inr (.inl 9),
  .inr (.inl 9),
  .inr (.inl 9),
  .inr (.inl 9),
  .inr (.inl 9),
  .inr (.inl 9),
  .inr (.inl 3),
  .inr (.inl 3),
  .inl (6, [.inl 72, .inl 73, .inl 74, .inl 75, .inl 76, .inl 77, .inr false, .inr false]),
  .inr (.inl 16),
  .inr (.inl 16),
  .inr (.inl 16),
  .inr (.inl 16),
  .inr (.inl 16),
  .inr (.inr (2, 78)),
  .inr (.inl 8),
  .inr (.inl 8),
  .inl (4, [.inl 81, .inl 87]),
  .inr (.inr (5, 82)),
  .inr (.inl 3),
  .inr (.inl 3),
  .inr (.inl 3),
  .inr (.inl 3),
  .inr (.inl 3),
  .inr (.inl 5),
  .inl (9, [.inl 89, .inr false, .inr false, .inr false, .inl 90, .inl 91, .inr false, .inl 92, .inl 93, .inr false, .inr false, .inl 94, .inr false, .inr false, .inl 95, .inr false, .inl 96, .inl 97, .inl 98, .inl 99, .inl 100, .inl 101, .inr false, .inr false, .inl 102, .inl 103, .inr false, .inl 104, .inl 105, .inr false, .inl 106, .inl 107, .inr true]),
  .inr (.inl 64),
  .inr (.inl 2),
  .inr (.inl 32),
  .inr (.inl 32),
  .inr (.inl 2),
  .inr (.inl 32),
  .inr (.inl 200),
  .inr (.inl 8),
  .inr (.inl 8),
  .inr (.inl 8),
  .inr (.inl 81),
  .inr (.inl 16),
  .inr (.inl 80),
  .inr (.inl 32),
  .inr (.inl 15),
  .inr (.inl 32),
  .inr (.inl 2),
  .inr (.inl 32),
  .inr (.inl 2)]
theorem k_0 : KD[0]? = some (.inl (8, [.inl 1, .inl 4, .inl 5, .inl 28, .inl 52, .inl 57, .inl 71, .inl 80, .inr false, .inr false, .inr false])) := rfl
theorem k_1 : KD[1]? = some (.inl (3, [.inl 2, .inl 3, .inr false])) := rfl
theorem k_2 : KD[2]? = some (.inr (.inl 64)) := rfl
theorem k_3 : KD[3]? = some (.inl (5, [.inr false, .inr false, .inr false])) := rfl
theorem k_4 : KD[4]? = some (.inl (2, [.inl 5, .inl 10, .inl 13, .inl 24, .inl 25, .inl 26, .inl 27, .inr false, .inr false])) := rfl
theorem k_5 : KD[5]? = some (.inl (7, [.inl 6, .inl 9])) := rfl
theorem k_6 : KD[6]? = some (.inr (.inr (2, 7))) := rfl
theorem k_7 : KD[7]? = some (.inr (.inl 8)) := rfl
theorem k_8 : KD[8]? = some (.inr (.inl 8)) := rfl
theorem k_9 : KD[9]? = some (.inr (.inl 2)) := rfl
theorem k_10 : KD[10]? = some (.inr (.inr (2, 11))) := rfl
theorem k_11 : KD[11]? = some (.inr (.inl 8)) := rfl
theorem k_12 : KD[12]? = some (.inr (.inl 8)) := rfl
theorem k_13 : KD[13]? = some (.inl (0, [.inl 14])) := rfl
theorem k_14 : KD[14]? = some (.inr (.inr (9, 15))) := rfl
theorem k_15 : KD[15]? = some (.inr (.inl 9)) := rfl
theorem k_16 : KD[16]? = some (.inr (.inl 9)) := rfl
theorem k_17 : KD[17]? = some (.inr (.inl 9)) := rfl
theorem k_18 : KD[18]? = some (.inr (.inl 9)) := rfl
theorem k_19 : KD[19]? = some (.inr (.inl 9)) := rfl
theorem k_20 : KD[20]? = some (.inr (.inl 9)) := rfl
theorem k_21 : KD[21]? = some (.inr (.inl 9)) := rfl
theorem k_22 : KD[22]? = some (.inr (.inl 9)) := rfl
theorem k_23 : KD[23]? = some (.inr (.inl 9)) := rfl
theorem k_24 : KD[24]? = some (.inr (.inl 8)) := rfl
theorem k_25 : KD[25]? = some (.inr (.inl 8)) := rfl
theorem k_26 : KD[26]? = some (.inr (.inl 2)) := rfl
theorem k_27 : KD[27]? = some (.inr (.inl 2)) := rfl
theorem k_28 : KD[28]? = some (.inl (2, [.inl 29, .inl 34, .inl 37, .inl 48, .inl 49, .inl 50, .inl 51, .inr false, .inr false])) := rfl
theorem k_29 : KD[29]? = some (.inl (7, [.inl 30, .inl 33])) := rfl
theorem k_30 : KD[30]? = some (.inr (.inr (2, 31))) := rfl
theorem k_31 : KD[31]? = some (.inr (.inl 8)) := rfl
theorem k_32 : KD[32]? = some (.inr (.inl 8)) := rfl
theorem k_33 : KD[33]? = some (.inr (.inl 2)) := rfl
theorem k_34 : KD[34]? = some (.inr (.inr (2, 35))) := rfl
theorem k_35 : KD[35]? = some (.inr (.inl 8)) := rfl
theorem k_36 : KD[36]? = some (.inr (.inl 8)) := rfl
theorem k_37 : KD[37]? = some (.inl (0, [.inl 38])) := rfl
theorem k_38 : KD[38]? = some (.inr (.inr (9, 39))) := rfl
theorem k_39 : KD[39]? = some (.inr (.inl 9)) := rfl
theorem k_40 : KD[40]? = some (.inr (.inl 9)) := rfl
theorem k_41 : KD[41]? = some (.inr (.inl 9)) := rfl
theorem k_42 : KD[42]? = some (.inr (.inl 9)) := rfl
theorem k_43 : KD[43]? = some (.inr (.inl 9)) := rfl
theorem k_44 : KD[44]? = some (.inr (.inl 9)) := rfl
theorem k_45 : KD[45]? = some (.inr (.inl 9)) := rfl
theorem k_46 : KD[46]? = some (.inr (.inl 9)) := rfl
theorem k_47 : KD[47]? = some (.inr (.inl 9)) := rfl
theorem k_48 : KD[48]? = some (.inr (.inl 8)) := rfl
theorem k_49 : KD[49]? = some (.inr (.inl 8)) := rfl
theorem k_50 : KD[50]? = some (.inr (.inl 2)) := rfl
theorem k_51 : KD[51]? = some (.inr (.inl 2)) := rfl
theorem k_52 : KD[52]? = some (.inl (7, [.inl 53, .inl 56])) := rfl
theorem k_53 : KD[53]? = some (.inr (.inr (2, 54))) := rfl
theorem k_54 : KD[54]? = some (.inr (.inl 8)) := rfl
theorem k_55 : KD[55]? = some (.inr (.inl 8)) := rfl
theorem k_56 : KD[56]? = some (.inr (.inl 2)) := rfl
theorem k_57 : KD[57]? = some (.inl (1, [.inl 58, .inl 69, .inl 70])) := rfl
theorem k_58 : KD[58]? = some (.inl (0, [.inl 59])) := rfl
theorem k_59 : KD[59]? = some (.inr (.inr (9, 60))) := rfl
theorem k_60 : KD[60]? = some (.inr (.inl 9)) := rfl
theorem k_61 : KD[61]? = some (.inr (.inl 9)) := rfl
theorem k_62 : KD[62]? = some (.inr (.inl 9)) := rfl
theorem k_63 : KD[63]? = some (.inr (.inl 9)) := rfl
theorem k_64 : KD[64]? = some (.inr (.inl 9)) := rfl
theorem k_65 : KD[65]? = some (.inr (.inl 9)) := rfl
theorem k_66 : KD[66]? = some (.inr (.inl 9)) := rfl
theorem k_67 : KD[67]? = some (.inr (.inl 9)) := rfl
theorem k_68 : KD[68]? = some (.inr (.inl 9)) := rfl
theorem k_69 : KD[69]? = some (.inr (.inl 3)) := rfl
theorem k_70 : KD[70]? = some (.inr (.inl 3)) := rfl
theorem k_71 : KD[71]? = some (.inl (6, [.inl 72, .inl 73, .inl 74, .inl 75, .inl 76, .inl 77, .inr false, .inr false])) := rfl
theorem k_72 : KD[72]? = some (.inr (.inl 16)) := rfl
theorem k_73 : KD[73]? = some (.inr (.inl 16)) := rfl
theorem k_74 : KD[74]? = some (.inr (.inl 16)) := rfl
theorem k_75 : KD[75]? = some (.inr (.inl 16)) := rfl
theorem k_76 : KD[76]? = some (.inr (.inl 16)) := rfl
theorem k_77 : KD[77]? = some (.inr (.inr (2, 78))) := rfl
theorem k_78 : KD[78]? = some (.inr (.inl 8)) := rfl
theorem k_79 : KD[79]? = some (.inr (.inl 8)) := rfl
theorem k_80 : KD[80]? = some (.inl (4, [.inl 81, .inl 87])) := rfl
theorem k_81 : KD[81]? = some (.inr (.inr (5, 82))) := rfl
theorem k_82 : KD[82]? = some (.inr (.inl 3)) := rfl
theorem k_83 : KD[83]? = some (.inr (.inl 3)) := rfl
theorem k_84 : KD[84]? = some (.inr (.inl 3)) := rfl
theorem k_85 : KD[85]? = some (.inr (.inl 3)) := rfl
theorem k_86 : KD[86]? = some (.inr (.inl 3)) := rfl
theorem k_87 : KD[87]? = some (.inr (.inl 5)) := rfl
theorem k_88 : KD[88]? = some (.inl (9, [.inl 89, .inr false, .inr false, .inr false, .inl 90, .inl 91, .inr false, .inl 92, .inl 93, .inr false, .inr false, .inl 94, .inr false, .inr false, .inl 95, .inr false, .inl 96, .inl 97, .inl 98, .inl 99, .inl 100, .inl 101, .inr false, .inr false, .inl 102, .inl 103, .inr false, .inl 104, .inl 105, .inr false, .inl 106, .inl 107, .inr true])) := rfl
theorem k_89 : KD[89]? = some (.inr (.inl 64)) := rfl
theorem k_90 : KD[90]? = some (.inr (.inl 2)) := rfl
theorem k_91 : KD[91]? = some (.inr (.inl 32)) := rfl
theorem k_92 : KD[92]? = some (.inr (.inl 32)) := rfl
theorem k_93 : KD[93]? = some (.inr (.inl 2)) := rfl
theorem k_94 : KD[94]? = some (.inr (.inl 32)) := rfl
theorem k_95 : KD[95]? = some (.inr (.inl 200)) := rfl
theorem k_96 : KD[96]? = some (.inr (.inl 8)) := rfl
theorem k_97 : KD[97]? = some (.inr (.inl 8)) := rfl
theorem k_98 : KD[98]? = some (.inr (.inl 8)) := rfl
theorem k_99 : KD[99]? = some (.inr (.inl 81)) := rfl
theorem k_100 : KD[100]? = some (.inr (.inl 16)) := rfl
theorem k_101 : KD[101]? = some (.inr (.inl 80)) := rfl
theorem k_102 : KD[102]? = some (.inr (.inl 32)) := rfl
theorem k_103 : KD[103]? = some (.inr (.inl 15)) := rfl
theorem k_104 : KD[104]? = some (.inr (.inl 32)) := rfl
theorem k_105 : KD[105]? = some (.inr (.inl 2)) := rfl
theorem k_106 : KD[106]? = some (.inr (.inl 32)) := rfl
theorem k_107 : KD[107]? = some (.inr (.inl 2)) := rfl
theorem KD_len : KD.length = 108 := rfl
theorem KD_lt {k : Nat} {x : AK} (h : KD[k]? = some x) : k < 108 := by
  have := (List.getElem?_eq_some_iff.mp h).1
  rwa [KD_len] at this
def rv (ad : Nat → Nat) (v : AV) : Value := match v with
  | .inl z => .int (Int32.ofInt z)
  | .inr (.inl z) => .long (Int64.ofInt z)
  | .inr (.inr (.inl b)) => .float b
  | .inr (.inr (.inr (.inl b))) => .double b
  | .inr (.inr (.inr (.inr k))) => .ref (ad k)
def isW (v : AV) : Bool := match v with
  | .inr (.inl _) => true
  | .inr (.inr (.inr (.inl _))) => true
  | _ => false
theorem rv_cat (ad : Nat → Nat) (v : AV) : ((rv ad v).category == 2) = isW v := by
  rcases v with z | z | z | z | z <;> rfl
theorem rv_cat2 (ad : Nat → Nat) (v : AV) : (rv ad v).category = 2 ↔ isW v = true := by
  rcases v with z | z | z | z | z <;> simp [rv, isW, Value.category]
def rvp (ad : Nat → Nat) (q : Nat × AV) : Nat × Value := (q.1, rv ad q.2)
/-- a field's value -/
def fvl (ad : Nat → Nat) (M : Nat → Int) (j : Nat) (f : Nat ⊕ Bool) : Value := match f with
  | .inl r => .ref (ad r)
  | .inr false => .int (Int32.ofInt (M j))
  | .inr true => .long (Int64.ofInt (M j))
def fvs (ad : Nat → Nat) (M : Nat → Int) : Nat → List (Nat ⊕ Bool) → List Value
  | _, [] => []
  | j, f :: fs => fvl ad M j f :: fvs ad M (j + 1) fs
theorem fvs_get (ad : Nat → Nat) (M : Nat → Int) : ∀ (fs : List (Nat ⊕ Bool)) (i k : Nat), (fvs ad M i fs)[k]? = (fs[k]?).map (fvl ad M (i + k))
  | [], i, k => by simp [fvs]
  | f :: fs, i, 0 => by simp [fvs]
  | f :: fs, i, k + 1 => by
    simp only [fvs, List.getElem?_cons_succ]
    rw [fvs_get ad M fs (i + 1) k, show i + 1 + k = i + (k + 1) by omega]
theorem fvs_len (ad : Nat → Nat) (M : Nat → Int) : ∀ (fs : List (Nat ⊕ Bool)) (i : Nat), (fvs ad M i fs).length = fs.length
  | [], i => rfl
  | f :: fs, i => by simp [fvs, fvs_len ad M fs (i + 1)]
theorem fvs_eq (ad : Nat → Nat) {M M' : Nat → Int} {fs : List (Nat ⊕ Bool)} {k : Nat} {v : Value} (hk : k < fs.length) (hne : ∀ j, j ≠ k → M' j = M j) (hv : (fs[k]?).map (fvl ad M' k) = some v) : (fvs ad M 0 fs).set k v = fvs ad M' 0 fs := by
  apply List.ext_getElem?
  intro i
  rw [fvs_get, Nat.zero_add, List.getElem?_set, fvs_len]
  by_cases e : k = i
  · subst e
    rw [if_pos rfl, if_pos hk, hv]
  · rw [if_neg e, fvs_get, Nat.zero_add]
    cases fs[i]? with
    | none => rfl
    | some f =>
      simp only [Option.map_some]
      rcases f with r | b
      · rfl
      · cases b <;> simp only [fvl, hne i (fun q => e q.symm)]
/-- the geometry: launch, classes, slots, addresses, where the heap ended at the law's start, the classes of int[] and int[][], the script -/
abbrev AG : Type := Launch × (Nat → ClassId) × (Nat → Nat → Nat) × (Nat → Nat) × Nat × ClassId × ClassId × Nat × (Nat → Int32)
abbrev gl (g : AG) : Launch := g.1
abbrev gD (g : AG) : va_G := (g.2.1, g.2.2.1)
abbrev gad (g : AG) : Nat → Nat := g.2.2.2.1
abbrev gs0 (g : AG) : Nat := g.2.2.2.2.1
abbrev gcI (g : AG) : ClassId := g.2.2.2.2.2.1
abbrev gcA (g : AG) : ClassId := g.2.2.2.2.2.2.1
abbrev gLn (g : AG) : Nat := g.2.2.2.2.2.2.2.1
abbrev gxs (g : AG) : Nat → Int32 := g.2.2.2.2.2.2.2.2
def gA (g : AG) : Nat → Prop := fun q => gs0 g ≤ q
def cel (g : AG) (M : AM) (k : Nat) : va_E := match KD[k]? with
  | some (.inl (ci, fs)) => .inr (ci, fvs (gad g) (M k) 0 fs)
  | some (.inr (.inl n)) => .inl (gcI g, n, .inl (fun j => Int32.ofInt (M k j)))
  | some (.inr (.inr (n, f))) => .inl (gcA g, n, .inr (.inr (.inr (.inr (fun j => if j < n then some (gad g (f + j)) else none)))))
  | none => .inr (0, [])
def wl (g : AG) (M : AM) : va_W := (List.range 108).map (fun k => (gad g k, cel g M k))
theorem wl_at (g : AG) (M : AM) {k : Nat} (h : k < 108) : (wl g M)[k]? = some (gad g k, cel g M k) := by
  unfold wl
  rw [List.getElem?_map, List.getElem?_range h]
  rfl
theorem wl_obj {g : AG} {M : AM} {k ci : Nat} {fs : List (Nat ⊕ Bool)} (h : KD[k]? = some (.inl (ci, fs))) : (wl g M)[k]? = some (gad g k, .inr (ci, fvs (gad g) (M k) 0 fs)) := by
  rw [wl_at g M (KD_lt h)]
  simp only [cel, h]
theorem wl_arr {g : AG} {M : AM} {k n : Nat} (h : KD[k]? = some (.inr (.inl n))) : (wl g M)[k]? = some (gad g k, .inl (gcI g, n, .inl (fun j => Int32.ofInt (M k j)))) := by
  rw [wl_at g M (KD_lt h)]
  simp only [cel, h]
theorem wl_mat {g : AG} {M : AM} {k n f : Nat} (h : KD[k]? = some (.inr (.inr (n, f)))) : (wl g M)[k]? = some (gad g k, .inl (gcA g, n, .inr (.inr (.inr (.inr (fun j => if j < n then some (gad g (f + j)) else none)))))) := by
  rw [wl_at g M (KD_lt h)]
  simp only [cel, h]
theorem wl_set {g : AG} {M M' : AM} {k : Nat} {x : va_E} (hk : k < 108) (hne : ∀ k', k' ≠ k → M' k' = M k') (hx : cel g M' k = x) : (wl g M).set k (gad g k, x) = wl g M' := by
  apply List.ext_getElem?
  intro i
  have hl : (wl g M).length = 108 := by simp [wl]
  rw [List.getElem?_set, hl]
  by_cases e : k = i
  · subst e
    rw [if_pos rfl, if_pos hk, wl_at g M' hk, hx]
  · rw [if_neg e]
    by_cases h : i < 108
    · rw [wl_at g M h, wl_at g M' h]
      simp only [cel, hne i (fun q => e q.symm)]
    · rw [List.getElem?_eq_none (by rw [hl]; omega), List.getElem?_eq_none (by simp [wl]; omega)]
theorem mU_ne {M : AM} {k j : Nat} {z : Int} {k' : Nat} (h : k' ≠ k) : mU M k j z k' = M k' := by
  funext j'
  simp [mU, h]
theorem mU_at {M : AM} {k j : Nat} {z : Int} : mU M k j z k j = z := by simp [mU]
theorem mU_nej {M : AM} {k j : Nat} {z : Int} {j' : Nat} (h : j' ≠ j) : mU M k j z k j' = M k j' := by simp [mU, h]
theorem mU_nej' {M : AM} {k j : Nat} {z : Int} {k' j' : Nat} (h : j' ≠ j) : mU M k j z k' j' = M k' j' := by simp [mU, h]

/-! what holds of the tables and of the cells that nobody writes -/
def isNest : Cond → Bool
  | .fieldLinkNest _ _ _ _ _ _ => true
  | .methodLinkNest _ _ _ _ => true
  | _ => false
def kab : Nat → Value := fun j => .int (Int32.ofInt ([-1, 0, 0, 2, 3].getD j 0))
def WT : List Cond := lw_tbl.filter goodWord
theorem WT_mem {w : Cond} (h : w ∈ lw_tbl) (hg : goodWord w = true) : w ∈ WT := List.mem_filter.mpr ⟨h, hg⟩
theorem WT_good {ws : List Cond} (h : ∀ w ∈ ws, w ∈ WT) : GoodIn WT ws := fun w hw => ⟨h w hw, good_of_word (List.mem_filter.mp (h w hw)).2⟩
def SF (g : AG) (U : State) : Prop :=
  (∀ w ∈ WT, ∀ a : Array Value, w.before a U = true) ∧ va_K (gD g) vwCl [(gcI g, .int), (gcA g, .array .int)] U ∧ (∀ w ∈ lw_tbl, isNest w = true → va_Nw w U) ∧
  va_X (gad g 108) (gLn g) (gxs g) U U.heap ∧ va_Z "LineScript" "KIND_ABOVE" "[I" (.ref (gad g 109)) (gA g) U U.heap ∧ va_T .int (gad g 109) 5 kab (gA g) U U.heap ∧
  (∀ i j, i < 108 → j < 108 → gad g i = gad g j → i = j) ∧ (∀ k, k < 108 → gs0 g ≤ gad g k) ∧ gad g 108 < gs0 g ∧ gs0 g ≤ U.heap.size
theorem va_D_wl {g : AG} {M : AM} (hi : ∀ i j, i < 108 → j < 108 → gad g i = gad g j → i = j) (ha : ∀ k, k < 108 → gs0 g ≤ gad g k) : va_D (gA g) (wl g M) := by
  have hl : (wl g M).length = 108 := by simp [wl]
  refine ⟨fun i j p q h1 h2 e => ?_, fun k q h => ?_⟩
  · have h3 : i < 108 := hl ▸ (List.getElem?_eq_some_iff.mp h1).1
    have h4 : j < 108 := hl ▸ (List.getElem?_eq_some_iff.mp h2).1
    rw [wl_at g M h3] at h1
    rw [wl_at g M h4] at h2
    cases h1
    cases h2
    exact hi i j h3 h4 e
  · have h3 : k < 108 := hl ▸ (List.getElem?_eq_some_iff.mp h).1
    rw [wl_at g M h3] at h
    cases h
    exact ha k h3
theorem isNest_warm {w : Cond} (h : isNest w = true) {s U : State} (hW : s.WarmedH U.vm) (hZ : va_Nw w s) : va_Nw w U := by
  cases w <;> simp [isNest] at h
  · exact va_Nw.warmM hW hZ
  · exact va_Nw.warmF hW hZ
theorem SF_moved {g : AG} {s U : State} (hW : s.WarmedH U.vm) (hz : s.heap.size ≤ U.heap.size) (hk : ∀ q : Nat, q < s.heap.size → ¬ gA g q → U.heap[q]? = s.heap[q]?) (h : SF g s) : SF g U := by
  obtain ⟨h1, h2, h3, h4, h5, h6, h7, h8, h9, h10⟩ := h
  refine ⟨fun w hw a => word_at hW (good_of_word (List.mem_filter.mp hw).2) (h1 w hw a), va_K.moved hW.alike h2, fun w hw hn => isNest_warm hn hW (h3 w hw hn), ?_, ?_, ?_, h7, h8, h9, Nat.le_trans h10 hz⟩
  · exact va_X.moved hW.alike (h4.kept (hk _ (Nat.lt_of_lt_of_le h9 h10) (Nat.not_le.mpr h9)))
  · exact va_Z.moved hW.alike (h5.kept hk)
  · exact va_T.moved hW.alike (h6.kept hk)
theorem SF_calling {g : AG} {U : State} (f : JFrame) (mk : MethodId) (a : Array Value) (h : SF g U) : SF g (U.calling f mk a) :=
  SF_moved (U := U.calling f mk a) (State.WarmedH.refl U) (Nat.le_refl _) (fun _ _ _ => rfl) h

/-! methods, the judgement -/
abbrev MI : Type := MethodName × ByteArray × Nat × Option FieldType
def Cx (g : AG) (n : MI) (d : Nat) (p : Program) (R : Room) (s : State) (m : MethodId) (meth : Method) (c : Code) (cells slots : Nat) : Prop :=
  p.tables.exec = Jvm.exec ∧ c.code = n.2.1 ∧ c.maxLocals = n.2.2.1 ∧ s.vm.findClass n.1.cls = some m.cls ∧ meth.sig.returnType = n.2.2.2 ∧ meth.locks = false ∧ d ≤ R.frames ∧ 64 * d ≤ R.locals ∧ cells ≤ R.cells ∧ slots ≤ R.slots ∧ SF g s
def RT (n : MI) (pc : Nat) (r : Option AV) : Prop := match r with
  | none => decode n.2.1 pc = .ok (.return_, 1) ∧ n.2.2.2 = none
  | some (.inl z) => decode n.2.1 pc = .ok (.ireturn, 1) ∧ (n.2.2.2 = some .int ∨ (n.2.2.2 = some .boolean ∧ (z = 0 ∨ z = 1)))
  | some (.inr (.inl _)) => decode n.2.1 pc = .ok (.lreturn, 1) ∧ n.2.2.2 = some .long
  | some (.inr (.inr (.inl _))) => decode n.2.1 pc = .ok (.freturn, 1) ∧ n.2.2.2 = some .float
  | _ => False
def Wa (g : AG) (n : MI) (d pc : Nat) (ls : List (Nat × AV)) (st : List AV) (M : AM) (Q : Option AV → AM → Prop) : Prop :=
  ∀ (p : Program) (e : Env) (R : Room) (s : State) (m : MethodId) (args : Array Value) (below : List Frame) (meth : Method) (c : Code) (H : Heap) (locs : List Loc) (cells slots : Nat) (la : Array Slot) (QW : State → Prop),
    Cx g n d p R s m meth c cells slots → RM M → va_P (gD g) vwCl (wl g M) H → va_S (gA g) s.heap H locs → lv_has la n.2.2.1 (ls.map (rvp (gad g))) →
    (∀ (r : Option AV) (M' : AM) (H' : Heap) (locs' : List Loc) (pc' : Nat) (la' : Array Slot), Q r M' → RM M' → va_P (gD g) vwCl (wl g M') H' → va_S (gA g) s.heap H' locs' → RT n pc' r →
      W p (gl g) e R s m args below meth c H' locs' cells slots QW (F0 m pc' la' (r.toList.map (rv (gad g))))) →
    W p (gl g) e R s m args below meth c H locs cells slots QW (F0 m pc la (st.map (rv (gad g))))
def rmA (d : Nat) : Room := { frames := d, cells := 0, slots := 0, locals := 64 * d }
def mPc (g : AG) (as : List AV) (M : AM) : Array Value → State → Prop := fun v U => v = (as.map (rv (gad g))).toArray ∧ SF g U ∧ RM M ∧ va_P (gD g) vwCl (wl g M) U.heap
def mQc (g : AG) (Q : Option AV → AM → Prop) : Array Value → State → Outcome → State → Prop := fun _ st o t => (∃ (r : Option AV) (M' : AM), o = .returned (r.map (rv (gad g))) ∧ Q r M' ∧ RM M' ∧ va_P (gD g) vwCl (wl g M') t.heap) ∧ va_F (gA g) st t
def MetA (g : AG) (n : MI) (d : Nat) (as : List AV) (M : AM) (Q : Option AV → AM → Prop) : Prop :=
  Met (gl g) n.1 [.code n.1 n.2.1 n.2.2.1 n.2.2.2] (rmA d) (mPc g as M) (mQc g Q) 0 0 (gA g)
def largs : Nat → List AV → List (Nat × AV)
  | _, [] => []
  | i, v :: vs => (i, v) :: largs (if isW v = true then i + 2 else i + 1) vs
theorem largs_rv (ad : Nat → Nat) : ∀ (as : List AV) (i : Nat), lv_args i (as.map (rv ad)) = (largs i as).map (rvp ad)
  | [], i => rfl
  | v :: vs, i => by
    simp only [List.map_cons, lv_args, largs, rvp, rv_cat2]
    rw [largs_rv ad vs]
def lsz : List AV → Nat
  | [] => 0
  | v :: vs => (if isW v = true then 2 else 1) + lsz vs
theorem lsz_rv (ad : Nat → Nat) : ∀ (as : List AV), (lg_sl (as.map (rv ad))).length = lsz as
  | [] => rfl
  | v :: vs => by
    have ih := lsz_rv ad vs
    unfold lg_sl at ih ⊢
    simp only [List.map_cons, List.flatMap_cons, List.length_append, ih, lsz, rv_cat2]
    split <;> simp
theorem nar_bool {z : Int} (h : z = 0 ∨ z = 1) : narrow .boolean (.int (Int32.ofInt z)) = .int (Int32.ofInt z) := by
  rcases h with rfl | rfl <;> decide
theorem fit_bool {z : Int} (h : z = 0 ∨ z = 1) : fits .boolean (.int (Int32.ofInt z)) = true := by
  rcases h with rfl | rfl <;> decide
set_option maxHeartbeats 4000000 in
theorem MetA.of {g : AG} {n : MI} {d : Nat} {as : List AV} {M : AM} {Q : Option AV → AM → Prop} (hy : plainName n.1.cls = true) (hsz : lsz as ≤ n.2.2.1) (k : Wa g n d 0 (largs 0 as) [] M Q) : MetA g n d as M Q := by
  refine Met.ofW (cc := n.2.1) (maxL := n.2.2.1) (ret := n.2.2.2) hy rfl ?_
  intro p e s m args below meth c s₁ B hml hv
  obtain ⟨rfl, hSF, hRM, hP⟩ := hv
  have hlocks := B.notSynchronized
  have hr := B.returns
  have hl := lv_entry (as.map (rv (gad g))) (n := n.2.2.1) (by rw [lsz_rv]; exact hsz)
  rw [largs_rv] at hl
  rw [lg_entry_eq]
  refine k p e (rmA d) s m _ below meth c s.heap [] 0 0 _ _ ⟨B.exec, B.bytes, hml, findClass_of_methodNamed B.named, hr, hlocks, Nat.le_refl _, Nat.le_refl _, Nat.le_refl _, Nat.le_refl _, hSF⟩ hRM hP va_S.rf hl ?_
  intro r M' H' locs' pc' la' hQ hRM' hP' hS' hT
  have fin : ∀ (t : State), t.heap = H' → s.WarmedH t.vm → mQc g Q (as.map (rv (gad g))).toArray s (.returned (r.map (rv (gad g)))) t := fun t ht _ => ⟨⟨r, M', rfl, hQ, hRM', by rw [ht]; exact hP'⟩, hS'.F ht⟩
  have hf : ∀ q ∈ locs', gA g q.base := hS'.2.2
  rcases r with _ | z | z | z | z | z
  · exact W.vret B.exec B.bytes (hr.trans hT.2) fin hf hT.1
  · rcases hT.2 with h | ⟨h, hz⟩
    · exact W.iret B.exec B.bytes (hr.trans h) fin hf hT.1
    · exact W.zret B.exec B.bytes (hr.trans h) (nar_bool hz) fin hf hT.1
  · exact W.lret B.exec B.bytes (hr.trans hT.2) fin hf hT.1
  · exact W.fret B.exec B.bytes (hr.trans hT.2) fin hf hT.1
  · exact hT.elim
  · exact hT.elim
theorem MetA.mono {g : AG} {n : MI} {d : Nat} {as : List AV} {M : AM} {Q Q' : Option AV → AM → Prop} (h : MetA g n d as M Q) (hq : ∀ r M', Q r M' → Q' r M') : MetA g n d as M Q' := by
  intro p e ha hc hk s m args below hf happ hP hK
  obtain ⟨k, o, h1, h2, h3, ⟨⟨⟨r, M', e1, e2, e3⟩, hF⟩, hL⟩⟩ := h p e ha hc hk s m args below hf happ hP hK
  exact ⟨k, o, h1, h2, h3, ⟨⟨⟨r, M', e1, hq r M' e2, e3⟩, hF⟩, hL⟩⟩
theorem Wa.mono {g : AG} {n : MI} {d pc : Nat} {ls : List (Nat × AV)} {st : List AV} {M : AM} {Q Q' : Option AV → AM → Prop} (h : Wa g n d pc ls st M Q) (hq : ∀ r M', Q r M' → Q' r M') : Wa g n d pc ls st M Q' := by
  intro p e R s m args below meth c H locs cells slots la QW C hR hP hS hl hF
  exact h p e R s m args below meth c H locs cells slots la QW C hR hP hS hl (fun r M' H' locs' pc' la' h0 => hF r M' H' locs' pc' la' (hq r M' h0))
end
section
section AROWS
variable {g : AG} {n : MI} {d pc : Nat} {ls : List (Nat × AV)} {st : List AV} {M : AM} {Q : Option AV → AM → Prop}
theorem Wa_iconst {z : Int} (hd : decode n.2.1 pc = .ok (.iconst z, 1)) (k : Wa g n d (pc + 1) ls (vI z :: st) M Q) : Wa g n d pc ls (st) M Q := by
  intro p e R s m args below meth c H locs cells slots la QW C hR hP hS hl hF
  have K := (k p e R s m args below meth c H locs cells slots la QW C hR hP hS hl hF)
  exact lv_iconst C.1 C.2.1 hd rfl K
theorem Wa_bipush {z : Int} (hd : decode n.2.1 pc = .ok (.bipush z, 2)) (hz : (Int8.ofInt z).toInt32 = Int32.ofInt z) (k : Wa g n d (pc + 2) ls (vI z :: st) M Q) : Wa g n d pc ls (st) M Q := by
  intro p e R s m args below meth c H locs cells slots la QW C hR hP hS hl hF
  have K := (k p e R s m args below meth c H locs cells slots la QW C hR hP hS hl hF)
  exact lv_bipush C.1 C.2.1 hd hz K
theorem Wa_sipush {z : Int} (hd : decode n.2.1 pc = .ok (.sipush z, 3)) (hz : (Int16.ofInt z).toInt32 = Int32.ofInt z) (k : Wa g n d (pc + 3) ls (vI z :: st) M Q) : Wa g n d pc ls (st) M Q := by
  intro p e R s m args below meth c H locs cells slots la QW C hR hP hS hl hF
  have K := (k p e R s m args below meth c H locs cells slots la QW C hR hP hS hl hF)
  exact lv_sipush C.1 C.2.1 hd hz K
theorem Wa_lconst {z : Fin 2} {v : Int} (hd : decode n.2.1 pc = .ok (.lconst z, 1)) (hz : Int64.ofNat (z : Nat) = Int64.ofInt v) (k : Wa g n d (pc + 1) ls (vL v :: st) M Q) : Wa g n d pc ls (st) M Q := by
  intro p e R s m args below meth c H locs cells slots la QW C hR hP hS hl hF
  have K := (k p e R s m args below meth c H locs cells slots la QW C hR hP hS hl hF)
  exact lv_lconst C.1 C.2.1 hd hz K
theorem Wa_fconst0 (hd : decode n.2.1 pc = .ok (.fconst 0, 1)) (k : Wa g n d (pc + 1) ls (vF FP.fconst0 :: st) M Q) : Wa g n d pc ls (st) M Q := by
  intro p e R s m args below meth c H locs cells slots la QW C hR hP hS hl hF
  have K := (k p e R s m args below meth c H locs cells slots la QW C hR hP hS hl hF)
  exact lv_fconst0 C.1 C.2.1 hd K
theorem Wa_fconst1 (hd : decode n.2.1 pc = .ok (.fconst 1, 1)) (k : Wa g n d (pc + 1) ls (vF FP.fconst1 :: st) M Q) : Wa g n d pc ls (st) M Q := by
  intro p e R s m args below meth c H locs cells slots la QW C hR hP hS hl hF
  have K := (k p e R s m args below meth c H locs cells slots la QW C hR hP hS hl hF)
  exact lv_fconst1 C.1 C.2.1 hd K
theorem Wa_fconst2 (hd : decode n.2.1 pc = .ok (.fconst 2, 1)) (k : Wa g n d (pc + 1) ls (vF FP.fconst2 :: st) M Q) : Wa g n d pc ls (st) M Q := by
  intro p e R s m args below meth c H locs cells slots la QW C hR hP hS hl hF
  have K := (k p e R s m args below meth c H locs cells slots la QW C hR hP hS hl hF)
  exact lv_fconst2 C.1 C.2.1 hd K
theorem Wa_dconst0 (hd : decode n.2.1 pc = .ok (.dconst 0, 1)) (k : Wa g n d (pc + 1) ls (vD FP.dconst0 :: st) M Q) : Wa g n d pc ls (st) M Q := by
  intro p e R s m args below meth c H locs cells slots la QW C hR hP hS hl hF
  have K := (k p e R s m args below meth c H locs cells slots la QW C hR hP hS hl hF)
  exact lv_dconst0 C.1 C.2.1 hd K
theorem Wa_dconst1 (hd : decode n.2.1 pc = .ok (.dconst 1, 1)) (k : Wa g n d (pc + 1) ls (vD FP.dconst1 :: st) M Q) : Wa g n d pc ls (st) M Q := by
  intro p e R s m args below meth c H locs cells slots la QW C hR hP hS hl hF
  have K := (k p e R s m args below meth c H locs cells slots la QW C hR hP hS hl hF)
  exact lv_dconst1 C.1 C.2.1 hd K
theorem Wa_ldc {i : Nat} {z : Int} (hd : decode n.2.1 pc = .ok (.ldc i, 2)) (hw : Cond.constant n.1.cls i (Int32.ofInt z) ∈ WT) (k : Wa g n d (pc + 2) ls (vI z :: st) M Q) : Wa g n d pc ls st M Q := by
  intro p e R s m args below meth c H locs cells slots la QW C hR hP hS hl hF
  have K := (k p e R s m args below meth c H locs cells slots la QW C hR hP hS hl hF)
  exact lv_ldc C.1 C.2.1 C.2.2.2.1 (C.2.2.2.2.2.2.2.2.2.2.1 _ hw _) hd K
theorem Wa_ldcw {i : Nat} {z : Int} (hd : decode n.2.1 pc = .ok (.ldc_w i, 3)) (hw : Cond.constant n.1.cls i (Int32.ofInt z) ∈ WT) (k : Wa g n d (pc + 3) ls (vI z :: st) M Q) : Wa g n d pc ls st M Q := by
  intro p e R s m args below meth c H locs cells slots la QW C hR hP hS hl hF
  have K := (k p e R s m args below meth c H locs cells slots la QW C hR hP hS hl hF)
  exact lv_ldcw C.1 C.2.1 C.2.2.2.1 (C.2.2.2.2.2.2.2.2.2.2.1 _ hw _) hd K
theorem Wa_ldc2 {i : Nat} {z : Int} (hd : decode n.2.1 pc = .ok (.ldc2_w i, 3)) (hw : Cond.constantLong n.1.cls i (Int64.ofInt z) ∈ WT) (k : Wa g n d (pc + 3) ls (vL z :: st) M Q) : Wa g n d pc ls st M Q := by
  intro p e R s m args below meth c H locs cells slots la QW C hR hP hS hl hF
  have K := (k p e R s m args below meth c H locs cells slots la QW C hR hP hS hl hF)
  exact lv_ldc2 C.1 C.2.1 C.2.2.2.1 (C.2.2.2.2.2.2.2.2.2.2.1 _ hw _) hd K
theorem Wa_ldcf {i : Nat} {z : UInt32} (hd : decode n.2.1 pc = .ok (.ldc i, 2)) (hw : Cond.constantFloat n.1.cls i z ∈ WT) (k : Wa g n d (pc + 2) ls (vF z :: st) M Q) : Wa g n d pc ls st M Q := by
  intro p e R s m args below meth c H locs cells slots la QW C hR hP hS hl hF
  have K := (k p e R s m args below meth c H locs cells slots la QW C hR hP hS hl hF)
  exact lv_ldcf C.1 C.2.1 C.2.2.2.1 (C.2.2.2.2.2.2.2.2.2.2.1 _ hw _) hd K
theorem Wa_ldc2d {i : Nat} {z : UInt64} (hd : decode n.2.1 pc = .ok (.ldc2_w i, 3)) (hw : Cond.constantDouble n.1.cls i z ∈ WT) (k : Wa g n d (pc + 3) ls (vD z :: st) M Q) : Wa g n d pc ls st M Q := by
  intro p e R s m args below meth c H locs cells slots la QW C hR hP hS hl hF
  have K := (k p e R s m args below meth c H locs cells slots la QW C hR hP hS hl hF)
  exact lv_ldc2d C.1 C.2.1 C.2.2.2.1 (C.2.2.2.2.2.2.2.2.2.2.1 _ hw _) hd K
theorem la_at {la : Array Slot} {nL : Nat} (hl : lv_has la nL (ls.map (rvp (gad g)))) {k i : Nat} {v : AV} (hk : ls[k]? = some (i, v)) : la[i]? = some (.val (rv (gad g) v)) :=
  lv_at hl k (by rw [List.getElem?_map, hk]; rfl)
theorem Wa_iload_n (j : Nat) {q : Fin 4} {i : Nat} {z : Int} (hd : decode n.2.1 pc = .ok (.iload_n q, 1)) (hj : ls[j]? = some (i, vI z)) (hi : (q : Nat) = i) (k : Wa g n d (pc + 1) ls (vI z :: st) M Q) : Wa g n d pc ls st M Q := by
  intro p e R s m args below meth c H locs cells slots la QW C hR hP hS hl hF
  have K := (k p e R s m args below meth c H locs cells slots la QW C hR hP hS hl hF)
  exact lv_iload_n C.1 C.2.1 hd hi (la_at hl hj) K
theorem Wa_iload (j : Nat) {i : Nat} {z : Int} (hd : decode n.2.1 pc = .ok (.iload i, 2)) (hj : ls[j]? = some (i, vI z)) (k : Wa g n d (pc + 2) ls (vI z :: st) M Q) : Wa g n d pc ls st M Q := by
  intro p e R s m args below meth c H locs cells slots la QW C hR hP hS hl hF
  have K := (k p e R s m args below meth c H locs cells slots la QW C hR hP hS hl hF)
  exact lv_iload C.1 C.2.1 hd (la_at hl hj) K
theorem Wa_lload_n (j : Nat) {q : Fin 4} {i : Nat} {z : Int} (hd : decode n.2.1 pc = .ok (.lload_n q, 1)) (hj : ls[j]? = some (i, vL z)) (hi : (q : Nat) = i) (k : Wa g n d (pc + 1) ls (vL z :: st) M Q) : Wa g n d pc ls st M Q := by
  intro p e R s m args below meth c H locs cells slots la QW C hR hP hS hl hF
  have K := (k p e R s m args below meth c H locs cells slots la QW C hR hP hS hl hF)
  exact lv_lload_n C.1 C.2.1 hd hi (la_at hl hj) K
theorem Wa_lload (j : Nat) {i : Nat} {z : Int} (hd : decode n.2.1 pc = .ok (.lload i, 2)) (hj : ls[j]? = some (i, vL z)) (k : Wa g n d (pc + 2) ls (vL z :: st) M Q) : Wa g n d pc ls st M Q := by
  intro p e R s m args below meth c H locs cells slots la QW C hR hP hS hl hF
  have K := (k p e R s m args below meth c H locs cells slots la QW C hR hP hS hl hF)
  exact lv_lload C.1 C.2.1 hd (la_at hl hj) K
theorem Wa_fload_n (j : Nat) {q : Fin 4} {i : Nat} {z : UInt32} (hd : decode n.2.1 pc = .ok (.fload_n q, 1)) (hj : ls[j]? = some (i, vF z)) (hi : (q : Nat) = i) (k : Wa g n d (pc + 1) ls (vF z :: st) M Q) : Wa g n d pc ls st M Q := by
  intro p e R s m args below meth c H locs cells slots la QW C hR hP hS hl hF
  have K := (k p e R s m args below meth c H locs cells slots la QW C hR hP hS hl hF)
  exact lv_fload_n C.1 C.2.1 hd hi (la_at hl hj) K
theorem Wa_fload (j : Nat) {i : Nat} {z : UInt32} (hd : decode n.2.1 pc = .ok (.fload i, 2)) (hj : ls[j]? = some (i, vF z)) (k : Wa g n d (pc + 2) ls (vF z :: st) M Q) : Wa g n d pc ls st M Q := by
  intro p e R s m args below meth c H locs cells slots la QW C hR hP hS hl hF
  have K := (k p e R s m args below meth c H locs cells slots la QW C hR hP hS hl hF)
  exact lv_fload C.1 C.2.1 hd (la_at hl hj) K
theorem Wa_dload_n (j : Nat) {q : Fin 4} {i : Nat} {z : UInt64} (hd : decode n.2.1 pc = .ok (.dload_n q, 1)) (hj : ls[j]? = some (i, vD z)) (hi : (q : Nat) = i) (k : Wa g n d (pc + 1) ls (vD z :: st) M Q) : Wa g n d pc ls st M Q := by
  intro p e R s m args below meth c H locs cells slots la QW C hR hP hS hl hF
  have K := (k p e R s m args below meth c H locs cells slots la QW C hR hP hS hl hF)
  exact lv_dload_n C.1 C.2.1 hd hi (la_at hl hj) K
theorem Wa_dload (j : Nat) {i : Nat} {z : UInt64} (hd : decode n.2.1 pc = .ok (.dload i, 2)) (hj : ls[j]? = some (i, vD z)) (k : Wa g n d (pc + 2) ls (vD z :: st) M Q) : Wa g n d pc ls st M Q := by
  intro p e R s m args below meth c H locs cells slots la QW C hR hP hS hl hF
  have K := (k p e R s m args below meth c H locs cells slots la QW C hR hP hS hl hF)
  exact lv_dload C.1 C.2.1 hd (la_at hl hj) K
theorem Wa_aload_n (j : Nat) {q : Fin 4} {i : Nat} {z : Nat} (hd : decode n.2.1 pc = .ok (.aload_n q, 1)) (hj : ls[j]? = some (i, vR z)) (hi : (q : Nat) = i) (k : Wa g n d (pc + 1) ls (vR z :: st) M Q) : Wa g n d pc ls st M Q := by
  intro p e R s m args below meth c H locs cells slots la QW C hR hP hS hl hF
  have K := (k p e R s m args below meth c H locs cells slots la QW C hR hP hS hl hF)
  exact lv_aload_n C.1 C.2.1 hd hi (la_at hl hj) K
theorem Wa_aload (j : Nat) {i : Nat} {z : Nat} (hd : decode n.2.1 pc = .ok (.aload i, 2)) (hj : ls[j]? = some (i, vR z)) (k : Wa g n d (pc + 2) ls (vR z :: st) M Q) : Wa g n d pc ls st M Q := by
  intro p e R s m args below meth c H locs cells slots la QW C hR hP hS hl hF
  have K := (k p e R s m args below meth c H locs cells slots la QW C hR hP hS hl hF)
  exact lv_aload C.1 C.2.1 hd (la_at hl hj) K
def st1 (i : Nat) (ls : List (Nat × AV)) : List (Nat × AV) := ls.filter (fun q => !(q.1 == i) && !(q.1 + 1 == i && isW q.2))
def st2 (i : Nat) (ls : List (Nat × AV)) : List (Nat × AV) := ls.filter (fun q => !(q.1 == i) && (!(q.1 == i + 1) && !(q.1 + 1 == i && isW q.2)))
theorem st1_rv (ad : Nat → Nat) (i : Nat) (v : AV) (ls : List (Nat × AV)) : (i, rv ad v) :: (ls.map (rvp ad)).filter (fun q => !(q.1 == i) && !(q.1 + 1 == i && q.2.category == 2)) = ((i, v) :: st1 i ls).map (rvp ad) := by
  rw [List.filter_map, List.map_cons]
  congr 1
  unfold st1
  congr 1
  apply List.filter_congr
  intro q _
  simp only [Function.comp, rvp, rv_cat]
theorem st2_rv (ad : Nat → Nat) (i : Nat) (v : AV) (ls : List (Nat × AV)) : (i, rv ad v) :: (ls.map (rvp ad)).filter (fun q => !(q.1 == i) && (!(q.1 == i + 1) && !(q.1 + 1 == i && q.2.category == 2))) = ((i, v) :: st2 i ls).map (rvp ad) := by
  rw [List.filter_map, List.map_cons]
  congr 1
  unfold st2
  congr 1
  apply List.filter_congr
  intro q _
  simp only [Function.comp, rvp, rv_cat]
theorem Wa_istore_n {q : Fin 4} {i : Nat} {z : Int} {ls' : List (Nat × AV)} (hd : decode n.2.1 pc = .ok (.istore_n q, 1)) (hi : (q : Nat) = i) (hn : i < n.2.2.1) (hs : (i, vI z) :: st1 i ls = ls') (k : Wa g n d (pc + 1) ls' st M Q) : Wa g n d pc ls (vI z :: st) M Q := by
  intro p e R s m args below meth c H locs cells slots la QW C hR hP hS hl hF
  refine lv_istore_n C.1 C.2.1 hd hi hl hn (st1_rv (gad g) i (vI z) ls) (fun la' hl' => ?_)
  rw [hs] at hl'
  exact k p e R s m args below meth c H locs cells slots la' QW C hR hP hS hl' hF
theorem Wa_istore {i : Nat} {z : Int} {ls' : List (Nat × AV)} (hd : decode n.2.1 pc = .ok (.istore i, 2)) (hn : i < n.2.2.1) (hs : (i, vI z) :: st1 i ls = ls') (k : Wa g n d (pc + 2) ls' st M Q) : Wa g n d pc ls (vI z :: st) M Q := by
  intro p e R s m args below meth c H locs cells slots la QW C hR hP hS hl hF
  refine lv_istore C.1 C.2.1 hd hl hn (st1_rv (gad g) i (vI z) ls) (fun la' hl' => ?_)
  rw [hs] at hl'
  exact k p e R s m args below meth c H locs cells slots la' QW C hR hP hS hl' hF
theorem Wa_lstore_n {q : Fin 4} {i : Nat} {z : Int} {ls' : List (Nat × AV)} (hd : decode n.2.1 pc = .ok (.lstore_n q, 1)) (hi : (q : Nat) = i) (hn : i + 1 < n.2.2.1) (hs : (i, vL z) :: st2 i ls = ls') (k : Wa g n d (pc + 1) ls' st M Q) : Wa g n d pc ls (vL z :: st) M Q := by
  intro p e R s m args below meth c H locs cells slots la QW C hR hP hS hl hF
  refine lv_lstore_n C.1 C.2.1 hd hi hl hn (st2_rv (gad g) i (vL z) ls) (fun la' hl' => ?_)
  rw [hs] at hl'
  exact k p e R s m args below meth c H locs cells slots la' QW C hR hP hS hl' hF
theorem Wa_lstore {i : Nat} {z : Int} {ls' : List (Nat × AV)} (hd : decode n.2.1 pc = .ok (.lstore i, 2)) (hn : i + 1 < n.2.2.1) (hs : (i, vL z) :: st2 i ls = ls') (k : Wa g n d (pc + 2) ls' st M Q) : Wa g n d pc ls (vL z :: st) M Q := by
  intro p e R s m args below meth c H locs cells slots la QW C hR hP hS hl hF
  refine lv_lstore C.1 C.2.1 hd hl hn (st2_rv (gad g) i (vL z) ls) (fun la' hl' => ?_)
  rw [hs] at hl'
  exact k p e R s m args below meth c H locs cells slots la' QW C hR hP hS hl' hF
theorem Wa_fstore_n {q : Fin 4} {i : Nat} {z : UInt32} {ls' : List (Nat × AV)} (hd : decode n.2.1 pc = .ok (.fstore_n q, 1)) (hi : (q : Nat) = i) (hn : i < n.2.2.1) (hs : (i, vF z) :: st1 i ls = ls') (k : Wa g n d (pc + 1) ls' st M Q) : Wa g n d pc ls (vF z :: st) M Q := by
  intro p e R s m args below meth c H locs cells slots la QW C hR hP hS hl hF
  refine lv_fstore_n C.1 C.2.1 hd hi hl hn (st1_rv (gad g) i (vF z) ls) (fun la' hl' => ?_)
  rw [hs] at hl'
  exact k p e R s m args below meth c H locs cells slots la' QW C hR hP hS hl' hF
theorem Wa_fstore {i : Nat} {z : UInt32} {ls' : List (Nat × AV)} (hd : decode n.2.1 pc = .ok (.fstore i, 2)) (hn : i < n.2.2.1) (hs : (i, vF z) :: st1 i ls = ls') (k : Wa g n d (pc + 2) ls' st M Q) : Wa g n d pc ls (vF z :: st) M Q := by
  intro p e R s m args below meth c H locs cells slots la QW C hR hP hS hl hF
  refine lv_fstore C.1 C.2.1 hd hl hn (st1_rv (gad g) i (vF z) ls) (fun la' hl' => ?_)
  rw [hs] at hl'
  exact k p e R s m args below meth c H locs cells slots la' QW C hR hP hS hl' hF
theorem Wa_dstore_n {q : Fin 4} {i : Nat} {z : UInt64} {ls' : List (Nat × AV)} (hd : decode n.2.1 pc = .ok (.dstore_n q, 1)) (hi : (q : Nat) = i) (hn : i + 1 < n.2.2.1) (hs : (i, vD z) :: st2 i ls = ls') (k : Wa g n d (pc + 1) ls' st M Q) : Wa g n d pc ls (vD z :: st) M Q := by
  intro p e R s m args below meth c H locs cells slots la QW C hR hP hS hl hF
  refine lv_dstore_n C.1 C.2.1 hd hi hl hn (st2_rv (gad g) i (vD z) ls) (fun la' hl' => ?_)
  rw [hs] at hl'
  exact k p e R s m args below meth c H locs cells slots la' QW C hR hP hS hl' hF
theorem Wa_dstore {i : Nat} {z : UInt64} {ls' : List (Nat × AV)} (hd : decode n.2.1 pc = .ok (.dstore i, 2)) (hn : i + 1 < n.2.2.1) (hs : (i, vD z) :: st2 i ls = ls') (k : Wa g n d (pc + 2) ls' st M Q) : Wa g n d pc ls (vD z :: st) M Q := by
  intro p e R s m args below meth c H locs cells slots la QW C hR hP hS hl hF
  refine lv_dstore C.1 C.2.1 hd hl hn (st2_rv (gad g) i (vD z) ls) (fun la' hl' => ?_)
  rw [hs] at hl'
  exact k p e R s m args below meth c H locs cells slots la' QW C hR hP hS hl' hF
theorem Wa_astore_n {q : Fin 4} {i : Nat} {z : Nat} {ls' : List (Nat × AV)} (hd : decode n.2.1 pc = .ok (.astore_n q, 1)) (hi : (q : Nat) = i) (hn : i < n.2.2.1) (hs : (i, vR z) :: st1 i ls = ls') (k : Wa g n d (pc + 1) ls' st M Q) : Wa g n d pc ls (vR z :: st) M Q := by
  intro p e R s m args below meth c H locs cells slots la QW C hR hP hS hl hF
  refine lv_astore_n C.1 C.2.1 hd hi hl hn (st1_rv (gad g) i (vR z) ls) (fun la' hl' => ?_)
  rw [hs] at hl'
  exact k p e R s m args below meth c H locs cells slots la' QW C hR hP hS hl' hF
theorem Wa_astore {i : Nat} {z : Nat} {ls' : List (Nat × AV)} (hd : decode n.2.1 pc = .ok (.astore i, 2)) (hn : i < n.2.2.1) (hs : (i, vR z) :: st1 i ls = ls') (k : Wa g n d (pc + 2) ls' st M Q) : Wa g n d pc ls (vR z :: st) M Q := by
  intro p e R s m args below meth c H locs cells slots la QW C hR hP hS hl hF
  refine lv_astore C.1 C.2.1 hd hl hn (st1_rv (gad g) i (vR z) ls) (fun la' hl' => ?_)
  rw [hs] at hl'
  exact k p e R s m args below meth c H locs cells slots la' QW C hR hP hS hl' hF
theorem Wa_iinc (j : Nat) {i : Nat} {x z : Int} {ls' : List (Nat × AV)} (hd : decode n.2.1 pc = .ok (.iinc i x, 3)) (hj : ls[j]? = some (i, vI z)) (hn : i < n.2.2.1) (hs : (i, vI (z + x)) :: st1 i ls = ls') (k : Wa g n d (pc + 3) ls' st M Q) : Wa g n d pc ls st M Q := by
  intro p e R s m args below meth c H locs cells slots la QW C hR hP hS hl hF
  refine lv_iinc (k := j) (v := Int32.ofInt (z + x)) C.1 C.2.1 hd hl (by rw [List.getElem?_map, hj]; rfl) (Int32.ofInt_add z x).symm hn (st1_rv (gad g) i (vI (z + x)) ls) (fun la' hl' => ?_)
  rw [hs] at hl'
  exact k p e R s m args below meth c H locs cells slots la' QW C hR hP hS hl' hF
theorem Wa_iadd {x y : Int} (hd : decode n.2.1 pc = .ok (.iadd, 1)) (k : Wa g n d (pc + 1) ls (vI (x + y) :: st) M Q) : Wa g n d pc ls (vI y :: vI x :: st) M Q := by
  intro p e R s m args below meth c H locs cells slots la QW C hR hP hS hl hF
  have K := (k p e R s m args below meth c H locs cells slots la QW C hR hP hS hl hF)
  have E : Int32.ofInt (x + y) = Int32.ofInt x + Int32.ofInt y := Int32.ofInt_add x y
  simp only [List.map_cons, rv, E] at K
  exact lv_iadd C.1 C.2.1 hd K
theorem Wa_isub {x y : Int} (hd : decode n.2.1 pc = .ok (.isub, 1)) (k : Wa g n d (pc + 1) ls (vI (x - y) :: st) M Q) : Wa g n d pc ls (vI y :: vI x :: st) M Q := by
  intro p e R s m args below meth c H locs cells slots la QW C hR hP hS hl hF
  have K := (k p e R s m args below meth c H locs cells slots la QW C hR hP hS hl hF)
  have E : Int32.ofInt (x - y) = Int32.ofInt x - Int32.ofInt y := Int32.ofInt_sub x y
  simp only [List.map_cons, rv, E] at K
  exact lv_isub C.1 C.2.1 hd K
theorem Wa_imul {x y : Int} (hd : decode n.2.1 pc = .ok (.imul, 1)) (k : Wa g n d (pc + 1) ls (vI (x * y) :: st) M Q) : Wa g n d pc ls (vI y :: vI x :: st) M Q := by
  intro p e R s m args below meth c H locs cells slots la QW C hR hP hS hl hF
  have K := (k p e R s m args below meth c H locs cells slots la QW C hR hP hS hl hF)
  have E : Int32.ofInt (x * y) = Int32.ofInt x * Int32.ofInt y := Int32.ofInt_mul x y
  simp only [List.map_cons, rv, E] at K
  exact lv_imul C.1 C.2.1 hd K
def iDiv (x y : Int) : Int := (Int32.ofInt x / Int32.ofInt y).toInt
def iRem (x y : Int) : Int := (Int32.ofInt x - Int32.ofInt x / Int32.ofInt y * Int32.ofInt y).toInt
def iAnd (x y : Int) : Int := (Int32.ofInt x &&& Int32.ofInt y).toInt
def iOr (x y : Int) : Int := (Int32.ofInt x ||| Int32.ofInt y).toInt
def iShl (x y : Int) : Int := (Int32.ofInt x <<< (Int32.ofInt y &&& 31)).toInt
def iShr (x y : Int) : Int := (Int32.ofInt x >>> (Int32.ofInt y &&& 31)).toInt
theorem Wa_idiv {x y : Int} (hd : decode n.2.1 pc = .ok (.idiv, 1)) (hne : ¬ Int32.ofInt y = 0) (k : Wa g n d (pc + 1) ls (vI (iDiv x y) :: st) M Q) : Wa g n d pc ls (vI y :: vI x :: st) M Q := by
  intro p e R s m args below meth c H locs cells slots la QW C hR hP hS hl hF
  have K := (k p e R s m args below meth c H locs cells slots la QW C hR hP hS hl hF)
  have E : Int32.ofInt (iDiv x y) = Int32.ofInt x / Int32.ofInt y := Int32.ofInt_toInt _
  simp only [List.map_cons, rv, E] at K
  exact lv_idiv C.1 C.2.1 hd hne K
theorem Wa_irem {x y : Int} (hd : decode n.2.1 pc = .ok (.irem, 1)) (hne : ¬ Int32.ofInt y = 0) (k : Wa g n d (pc + 1) ls (vI (iRem x y) :: st) M Q) : Wa g n d pc ls (vI y :: vI x :: st) M Q := by
  intro p e R s m args below meth c H locs cells slots la QW C hR hP hS hl hF
  have K := (k p e R s m args below meth c H locs cells slots la QW C hR hP hS hl hF)
  have E : Int32.ofInt (iRem x y) = Int32.ofInt x - Int32.ofInt x / Int32.ofInt y * Int32.ofInt y := Int32.ofInt_toInt _
  simp only [List.map_cons, rv, E] at K
  exact lv_irem C.1 C.2.1 hd hne K
theorem Wa_iand {x y : Int} (hd : decode n.2.1 pc = .ok (.iand, 1)) (k : Wa g n d (pc + 1) ls (vI (iAnd x y) :: st) M Q) : Wa g n d pc ls (vI y :: vI x :: st) M Q := by
  intro p e R s m args below meth c H locs cells slots la QW C hR hP hS hl hF
  have K := (k p e R s m args below meth c H locs cells slots la QW C hR hP hS hl hF)
  have E : Int32.ofInt (iAnd x y) = Int32.ofInt x &&& Int32.ofInt y := Int32.ofInt_toInt _
  simp only [List.map_cons, rv, E] at K
  exact lv_iand C.1 C.2.1 hd K
theorem Wa_ior {x y : Int} (hd : decode n.2.1 pc = .ok (.ior, 1)) (k : Wa g n d (pc + 1) ls (vI (iOr x y) :: st) M Q) : Wa g n d pc ls (vI y :: vI x :: st) M Q := by
  intro p e R s m args below meth c H locs cells slots la QW C hR hP hS hl hF
  have K := (k p e R s m args below meth c H locs cells slots la QW C hR hP hS hl hF)
  have E : Int32.ofInt (iOr x y) = Int32.ofInt x ||| Int32.ofInt y := Int32.ofInt_toInt _
  simp only [List.map_cons, rv, E] at K
  exact lv_ior C.1 C.2.1 hd K
theorem Wa_ishl {x y : Int} (hd : decode n.2.1 pc = .ok (.ishl, 1)) (k : Wa g n d (pc + 1) ls (vI (iShl x y) :: st) M Q) : Wa g n d pc ls (vI y :: vI x :: st) M Q := by
  intro p e R s m args below meth c H locs cells slots la QW C hR hP hS hl hF
  have K := (k p e R s m args below meth c H locs cells slots la QW C hR hP hS hl hF)
  have E : Int32.ofInt (iShl x y) = Int32.ofInt x <<< (Int32.ofInt y &&& 31) := Int32.ofInt_toInt _
  simp only [List.map_cons, rv, E] at K
  exact lv_ishl C.1 C.2.1 hd K
theorem Wa_ishr {x y : Int} (hd : decode n.2.1 pc = .ok (.ishr, 1)) (k : Wa g n d (pc + 1) ls (vI (iShr x y) :: st) M Q) : Wa g n d pc ls (vI y :: vI x :: st) M Q := by
  intro p e R s m args below meth c H locs cells slots la QW C hR hP hS hl hF
  have K := (k p e R s m args below meth c H locs cells slots la QW C hR hP hS hl hF)
  have E : Int32.ofInt (iShr x y) = Int32.ofInt x >>> (Int32.ofInt y &&& 31) := Int32.ofInt_toInt _
  simp only [List.map_cons, rv, E] at K
  exact lv_ishr C.1 C.2.1 hd K
theorem Wa_ladd {x y : Int} (hd : decode n.2.1 pc = .ok (.ladd, 1)) (k : Wa g n d (pc + 1) ls (vL (x + y) :: st) M Q) : Wa g n d pc ls (vL y :: vL x :: st) M Q := by
  intro p e R s m args below meth c H locs cells slots la QW C hR hP hS hl hF
  have K := (k p e R s m args below meth c H locs cells slots la QW C hR hP hS hl hF)
  have E : Int64.ofInt (x + y) = Int64.ofInt x + Int64.ofInt y := Int64.ofInt_add x y
  simp only [List.map_cons, rv, E] at K
  exact lv_ladd C.1 C.2.1 hd K
theorem Wa_lsub {x y : Int} (hd : decode n.2.1 pc = .ok (.lsub, 1)) (k : Wa g n d (pc + 1) ls (vL (x - y) :: st) M Q) : Wa g n d pc ls (vL y :: vL x :: st) M Q := by
  intro p e R s m args below meth c H locs cells slots la QW C hR hP hS hl hF
  have K := (k p e R s m args below meth c H locs cells slots la QW C hR hP hS hl hF)
  have E : Int64.ofInt (x - y) = Int64.ofInt x - Int64.ofInt y := Int64.ofInt_sub x y
  simp only [List.map_cons, rv, E] at K
  exact lv_lsub C.1 C.2.1 hd K
theorem Wa_lmul {x y : Int} (hd : decode n.2.1 pc = .ok (.lmul, 1)) (k : Wa g n d (pc + 1) ls (vL (x * y) :: st) M Q) : Wa g n d pc ls (vL y :: vL x :: st) M Q := by
  intro p e R s m args below meth c H locs cells slots la QW C hR hP hS hl hF
  have K := (k p e R s m args below meth c H locs cells slots la QW C hR hP hS hl hF)
  have E : Int64.ofInt (x * y) = Int64.ofInt x * Int64.ofInt y := Int64.ofInt_mul x y
  simp only [List.map_cons, rv, E] at K
  exact lv_lmul C.1 C.2.1 hd K
def lDiv (x y : Int) : Int := (Int64.ofInt x / Int64.ofInt y).toInt
def lRem (x y : Int) : Int := (Int64.ofInt x - Int64.ofInt x / Int64.ofInt y * Int64.ofInt y).toInt
def lAnd (x y : Int) : Int := (Int64.ofInt x &&& Int64.ofInt y).toInt
def lOr (x y : Int) : Int := (Int64.ofInt x ||| Int64.ofInt y).toInt
def lShl (x y : Int) : Int := (Int64.ofInt x <<< ((Int32.ofInt y).toInt64 &&& 63)).toInt
theorem Wa_ldiv {x y : Int} (hd : decode n.2.1 pc = .ok (.ldiv, 1)) (hne : ¬ Int64.ofInt y = 0) (k : Wa g n d (pc + 1) ls (vL (lDiv x y) :: st) M Q) : Wa g n d pc ls (vL y :: vL x :: st) M Q := by
  intro p e R s m args below meth c H locs cells slots la QW C hR hP hS hl hF
  have K := (k p e R s m args below meth c H locs cells slots la QW C hR hP hS hl hF)
  have E : Int64.ofInt (lDiv x y) = Int64.ofInt x / Int64.ofInt y := Int64.ofInt_toInt _
  simp only [List.map_cons, rv, E] at K
  exact lv_ldiv C.1 C.2.1 hd hne K
theorem Wa_lrem {x y : Int} (hd : decode n.2.1 pc = .ok (.lrem, 1)) (hne : ¬ Int64.ofInt y = 0) (k : Wa g n d (pc + 1) ls (vL (lRem x y) :: st) M Q) : Wa g n d pc ls (vL y :: vL x :: st) M Q := by
  intro p e R s m args below meth c H locs cells slots la QW C hR hP hS hl hF
  have K := (k p e R s m args below meth c H locs cells slots la QW C hR hP hS hl hF)
  have E : Int64.ofInt (lRem x y) = Int64.ofInt x - Int64.ofInt x / Int64.ofInt y * Int64.ofInt y := Int64.ofInt_toInt _
  simp only [List.map_cons, rv, E] at K
  exact lv_lrem C.1 C.2.1 hd hne K
theorem Wa_land {x y : Int} (hd : decode n.2.1 pc = .ok (.land, 1)) (k : Wa g n d (pc + 1) ls (vL (lAnd x y) :: st) M Q) : Wa g n d pc ls (vL y :: vL x :: st) M Q := by
  intro p e R s m args below meth c H locs cells slots la QW C hR hP hS hl hF
  have K := (k p e R s m args below meth c H locs cells slots la QW C hR hP hS hl hF)
  have E : Int64.ofInt (lAnd x y) = Int64.ofInt x &&& Int64.ofInt y := Int64.ofInt_toInt _
  simp only [List.map_cons, rv, E] at K
  exact lv_land C.1 C.2.1 hd K
theorem Wa_lor {x y : Int} (hd : decode n.2.1 pc = .ok (.lor, 1)) (k : Wa g n d (pc + 1) ls (vL (lOr x y) :: st) M Q) : Wa g n d pc ls (vL y :: vL x :: st) M Q := by
  intro p e R s m args below meth c H locs cells slots la QW C hR hP hS hl hF
  have K := (k p e R s m args below meth c H locs cells slots la QW C hR hP hS hl hF)
  have E : Int64.ofInt (lOr x y) = Int64.ofInt x ||| Int64.ofInt y := Int64.ofInt_toInt _
  simp only [List.map_cons, rv, E] at K
  exact lv_lor C.1 C.2.1 hd K
theorem Wa_lshl {x y : Int} (hd : decode n.2.1 pc = .ok (.lshl, 1)) (k : Wa g n d (pc + 1) ls (vL (lShl x y) :: st) M Q) : Wa g n d pc ls (vI y :: vL x :: st) M Q := by
  intro p e R s m args below meth c H locs cells slots la QW C hR hP hS hl hF
  have K := (k p e R s m args below meth c H locs cells slots la QW C hR hP hS hl hF)
  exact lv_lshl C.1 C.2.1 hd (Int64.ofInt_toInt _).symm K
theorem Wa_i2l {x : Int} (hd : decode n.2.1 pc = .ok (.i2l, 1)) (hr : rg x) (k : Wa g n d (pc + 1) ls (vL x :: st) M Q) : Wa g n d pc ls (vI x :: st) M Q := by
  intro p e R s m args below meth c H locs cells slots la QW C hR hP hS hl hF
  have K := (k p e R s m args below meth c H locs cells slots la QW C hR hP hS hl hF)
  refine lv_i2l C.1 C.2.1 hd (Int32.toInt64_ofInt hr.1 ?_) K
  have := hr.2
  show x ≤ 2147483647
  omega
def l2I (x : Int) : Int := (Int32.ofInt x).toInt
theorem Wa_l2i {x : Int} (hd : decode n.2.1 pc = .ok (.l2i, 1)) (k : Wa g n d (pc + 1) ls (vI (l2I x) :: st) M Q) : Wa g n d pc ls (vL x :: st) M Q := by
  intro p e R s m args below meth c H locs cells slots la QW C hR hP hS hl hF
  have K := (k p e R s m args below meth c H locs cells slots la QW C hR hP hS hl hF)
  refine lv_l2i C.1 C.2.1 hd ?_ K
  rw [Int64.toInt32_ofInt]
  exact (Int32.ofInt_toInt _).symm
def fCmp (x y : UInt32) (o : CmpOp) : Int := (Op.cmpValue (FP.fcmp x y) o).toInt
def dCmp (x y : UInt64) (o : CmpOp) : Int := (Op.cmpValue (FP.dcmp x y) o).toInt
def lCmp (x y : Int) : Int := (lg_cmp (Int64.ofInt x) (Int64.ofInt y)).toInt
def f2I (x : UInt32) : Int := (FP.f2i x).toInt
def d2L (x : UInt64) : Int := (FP.d2l x).toInt
theorem Wa_fcmp {x y : UInt32} {o : CmpOp} (hd : decode n.2.1 pc = .ok (.fcmp o, 1)) (k : Wa g n d (pc + 1) ls (vI (fCmp x y o) :: st) M Q) : Wa g n d pc ls (vF y :: vF x :: st) M Q := by
  intro p e R s m args below meth c H locs cells slots la QW C hR hP hS hl hF
  have K := (k p e R s m args below meth c H locs cells slots la QW C hR hP hS hl hF)
  simp only [List.map_cons, rv, fCmp, Int32.ofInt_toInt] at K
  exact lv_fcmp C.1 C.2.1 hd K
theorem Wa_dcmp {x y : UInt64} {o : CmpOp} (hd : decode n.2.1 pc = .ok (.dcmp o, 1)) (k : Wa g n d (pc + 1) ls (vI (dCmp x y o) :: st) M Q) : Wa g n d pc ls (vD y :: vD x :: st) M Q := by
  intro p e R s m args below meth c H locs cells slots la QW C hR hP hS hl hF
  have K := (k p e R s m args below meth c H locs cells slots la QW C hR hP hS hl hF)
  simp only [List.map_cons, rv, dCmp, Int32.ofInt_toInt] at K
  exact lv_dcmp C.1 C.2.1 hd K
theorem Wa_lcmp {x y : Int} (hd : decode n.2.1 pc = .ok (.lcmp, 1)) (k : Wa g n d (pc + 1) ls (vI (lCmp x y) :: st) M Q) : Wa g n d pc ls (vL y :: vL x :: st) M Q := by
  intro p e R s m args below meth c H locs cells slots la QW C hR hP hS hl hF
  have K := (k p e R s m args below meth c H locs cells slots la QW C hR hP hS hl hF)
  simp only [List.map_cons, rv, lCmp, Int32.ofInt_toInt] at K
  exact W.lcmp C.1 C.2.1 hd K
theorem Wa_i2f {x : Int} (hd : decode n.2.1 pc = .ok (.i2f, 1)) (k : Wa g n d (pc + 1) ls (vF (FP.i2f (Int32.ofInt x)) :: st) M Q) : Wa g n d pc ls (vI x :: st) M Q := by
  intro p e R s m args below meth c H locs cells slots la QW C hR hP hS hl hF
  exact lv_i2f C.1 C.2.1 hd (k p e R s m args below meth c H locs cells slots la QW C hR hP hS hl hF)
theorem Wa_i2d {x : Int} (hd : decode n.2.1 pc = .ok (.i2d, 1)) (k : Wa g n d (pc + 1) ls (vD (FP.i2d (Int32.ofInt x)) :: st) M Q) : Wa g n d pc ls (vI x :: st) M Q := by
  intro p e R s m args below meth c H locs cells slots la QW C hR hP hS hl hF
  exact lv_i2d C.1 C.2.1 hd (k p e R s m args below meth c H locs cells slots la QW C hR hP hS hl hF)
theorem Wa_f2i {x : UInt32} (hd : decode n.2.1 pc = .ok (.f2i, 1)) (k : Wa g n d (pc + 1) ls (vI (f2I x) :: st) M Q) : Wa g n d pc ls (vF x :: st) M Q := by
  intro p e R s m args below meth c H locs cells slots la QW C hR hP hS hl hF
  have K := (k p e R s m args below meth c H locs cells slots la QW C hR hP hS hl hF)
  simp only [List.map_cons, rv, f2I, Int32.ofInt_toInt] at K
  exact lv_f2i C.1 C.2.1 hd K
theorem Wa_d2l {x : UInt64} (hd : decode n.2.1 pc = .ok (.d2l, 1)) (k : Wa g n d (pc + 1) ls (vL (d2L x) :: st) M Q) : Wa g n d pc ls (vD x :: st) M Q := by
  intro p e R s m args below meth c H locs cells slots la QW C hR hP hS hl hF
  have K := (k p e R s m args below meth c H locs cells slots la QW C hR hP hS hl hF)
  simp only [List.map_cons, rv, d2L, Int64.ofInt_toInt] at K
  exact lv_d2l C.1 C.2.1 hd K
theorem Wa_fdiv {x y : UInt32} (hd : decode n.2.1 pc = .ok (.fdiv, 1)) (hne : vf_n32 (FP.fdiv x y)) (k : Wa g n d (pc + 1) ls (vF (FP.fdiv x y) :: st) M Q) : Wa g n d pc ls (vF y :: vF x :: st) M Q := by
  intro p e R s m args below meth c H locs cells slots la QW C hR hP hS hl hF
  exact lv_fdiv C.1 C.2.1 hd hne (k p e R s m args below meth c H locs cells slots la QW C hR hP hS hl hF)
theorem Wa_fmul {x y : UInt32} (hd : decode n.2.1 pc = .ok (.fmul, 1)) (hne : vf_n32 (FP.fmul x y)) (k : Wa g n d (pc + 1) ls (vF (FP.fmul x y) :: st) M Q) : Wa g n d pc ls (vF y :: vF x :: st) M Q := by
  intro p e R s m args below meth c H locs cells slots la QW C hR hP hS hl hF
  exact lv_fmul C.1 C.2.1 hd hne (k p e R s m args below meth c H locs cells slots la QW C hR hP hS hl hF)
theorem Wa_ddiv {x y : UInt64} (hd : decode n.2.1 pc = .ok (.ddiv, 1)) (hne : vf_n64 (FP.ddiv x y)) (k : Wa g n d (pc + 1) ls (vD (FP.ddiv x y) :: st) M Q) : Wa g n d pc ls (vD y :: vD x :: st) M Q := by
  intro p e R s m args below meth c H locs cells slots la QW C hR hP hS hl hF
  exact lv_ddiv C.1 C.2.1 hd hne (k p e R s m args below meth c H locs cells slots la QW C hR hP hS hl hF)
theorem Wa_dmul {x y : UInt64} (hd : decode n.2.1 pc = .ok (.dmul, 1)) (hne : vf_n64 (FP.dmul x y)) (k : Wa g n d (pc + 1) ls (vD (FP.dmul x y) :: st) M Q) : Wa g n d pc ls (vD y :: vD x :: st) M Q := by
  intro p e R s m args below meth c H locs cells slots la QW C hR hP hS hl hF
  exact lv_dmul C.1 C.2.1 hd hne (k p e R s m args below meth c H locs cells slots la QW C hR hP hS hl hF)
theorem cat1 {ad : Nat → Nat} {v : AV} (h : isW v = false) : (rv ad v).category = 1 := by
  rcases lv_cat (rv ad v) with q | q
  · exact q
  · rw [rv_cat2, h] at q
    cases q
theorem Wa_dup {v : AV} (hd : decode n.2.1 pc = .ok (.dup, 1)) (hv : isW v = false) (k : Wa g n d (pc + 1) ls (v :: v :: st) M Q) : Wa g n d pc ls (v :: st) M Q := by
  intro p e R s m args below meth c H locs cells slots la QW C hR hP hS hl hF
  exact lv_dup C.1 C.2.1 hd (cat1 hv) (k p e R s m args below meth c H locs cells slots la QW C hR hP hS hl hF)
theorem Wa_pop {v : AV} (hd : decode n.2.1 pc = .ok (.pop, 1)) (hv : isW v = false) (k : Wa g n d (pc + 1) ls st M Q) : Wa g n d pc ls (v :: st) M Q := by
  intro p e R s m args below meth c H locs cells slots la QW C hR hP hS hl hF
  exact lv_pop C.1 C.2.1 hd (cat1 hv) (k p e R s m args below meth c H locs cells slots la QW C hR hP hS hl hF)
theorem Wa_dup2 {v u : AV} (hd : decode n.2.1 pc = .ok (.dup2, 1)) (hv : isW v = false) (hu : isW u = false) (k : Wa g n d (pc + 1) ls (v :: u :: v :: u :: st) M Q) : Wa g n d pc ls (v :: u :: st) M Q := by
  intro p e R s m args below meth c H locs cells slots la QW C hR hP hS hl hF
  exact lv_dup2_11 C.1 C.2.1 hd (cat1 hv) (cat1 hu) (k p e R s m args below meth c H locs cells slots la QW C hR hP hS hl hF)
theorem rg_0 : rg 0 := ⟨by decide, by decide⟩
theorem rg_eq {x y : Int} (hx : rg x) (hy : rg y) : Int32.ofInt x = Int32.ofInt y ↔ x = y := by
  refine ⟨fun h => ?_, fun h => by rw [h]⟩
  have := congrArg Int32.toInt h
  rwa [rg_back hx, rg_back hy] at this
theorem rg_lt {x y : Int} (hx : rg x) (hy : rg y) : Int32.ofInt x < Int32.ofInt y ↔ x < y := by
  rw [Int32.lt_iff_toInt_lt, rg_back hx, rg_back hy]
theorem rg_le {x y : Int} (hx : rg x) (hy : rg y) : Int32.ofInt x ≤ Int32.ofInt y ↔ x ≤ y := by
  rw [Int32.le_iff_toInt_le, rg_back hx, rg_back hy]
theorem Wa_icmp_eq {x y : Int} {off : Int} {tgt : Nat} (hd : decode n.2.1 pc = .ok (.if_icmp .eq off, 3)) (ht : (pc : Int) + off = (tgt : Int)) (hx : rg x) (hy : rg y) (kt : x = y → Wa g n d tgt ls st M Q) (kf : ¬ x = y → Wa g n d (pc + 3) ls st M Q) : Wa g n d pc ls (vI y :: vI x :: st) M Q := by
  intro p e R s m args below meth c H locs cells slots la QW C hR hP hS hl hF
  have E0 := rg_eq hx hy
  have E := rg_eq hx hy
  exact lv_icmp_eq C.1 C.2.1 hd ht (fun h => kt (E.mp h) p e R s m args below meth c H locs cells slots la QW C hR hP hS hl hF) (fun h => kf (fun q => h (E.mpr q)) p e R s m args below meth c H locs cells slots la QW C hR hP hS hl hF)
theorem Wa_if_eq {x : Int} {off : Int} {tgt : Nat} (hd : decode n.2.1 pc = .ok (.ifCond .eq off, 3)) (ht : (pc : Int) + off = (tgt : Int)) (hx : rg x) (kt : x = 0 → Wa g n d tgt ls st M Q) (kf : ¬ x = 0 → Wa g n d (pc + 3) ls st M Q) : Wa g n d pc ls (vI x :: st) M Q := by
  intro p e R s m args below meth c H locs cells slots la QW C hR hP hS hl hF
  have E0 := rg_eq hx rg_0
  have E := rg_eq hx rg_0
  exact lv_if_eq C.1 C.2.1 hd ht (fun h => kt (E.mp h) p e R s m args below meth c H locs cells slots la QW C hR hP hS hl hF) (fun h => kf (fun q => h (E.mpr q)) p e R s m args below meth c H locs cells slots la QW C hR hP hS hl hF)
theorem Wa_icmp_ne {x y : Int} {off : Int} {tgt : Nat} (hd : decode n.2.1 pc = .ok (.if_icmp .ne off, 3)) (ht : (pc : Int) + off = (tgt : Int)) (hx : rg x) (hy : rg y) (kt : ¬ x = y → Wa g n d tgt ls st M Q) (kf : x = y → Wa g n d (pc + 3) ls st M Q) : Wa g n d pc ls (vI y :: vI x :: st) M Q := by
  intro p e R s m args below meth c H locs cells slots la QW C hR hP hS hl hF
  have E0 := rg_eq hx hy
  have E := not_congr (rg_eq hx hy)
  exact lv_icmp_ne C.1 C.2.1 hd ht (fun h => kt (E.mp h) p e R s m args below meth c H locs cells slots la QW C hR hP hS hl hF) (fun h => kf (E0.mp h) p e R s m args below meth c H locs cells slots la QW C hR hP hS hl hF)
theorem Wa_if_ne {x : Int} {off : Int} {tgt : Nat} (hd : decode n.2.1 pc = .ok (.ifCond .ne off, 3)) (ht : (pc : Int) + off = (tgt : Int)) (hx : rg x) (kt : ¬ x = 0 → Wa g n d tgt ls st M Q) (kf : x = 0 → Wa g n d (pc + 3) ls st M Q) : Wa g n d pc ls (vI x :: st) M Q := by
  intro p e R s m args below meth c H locs cells slots la QW C hR hP hS hl hF
  have E0 := rg_eq hx rg_0
  have E := not_congr (rg_eq hx rg_0)
  exact lv_if_ne C.1 C.2.1 hd ht (fun h => kt (E.mp h) p e R s m args below meth c H locs cells slots la QW C hR hP hS hl hF) (fun h => kf (E0.mp h) p e R s m args below meth c H locs cells slots la QW C hR hP hS hl hF)
theorem Wa_icmp_lt {x y : Int} {off : Int} {tgt : Nat} (hd : decode n.2.1 pc = .ok (.if_icmp .lt off, 3)) (ht : (pc : Int) + off = (tgt : Int)) (hx : rg x) (hy : rg y) (kt : x < y → Wa g n d tgt ls st M Q) (kf : ¬ x < y → Wa g n d (pc + 3) ls st M Q) : Wa g n d pc ls (vI y :: vI x :: st) M Q := by
  intro p e R s m args below meth c H locs cells slots la QW C hR hP hS hl hF
  have E0 := rg_eq hx hy
  have E := rg_lt hx hy
  exact lv_icmp_lt C.1 C.2.1 hd ht (fun h => kt (E.mp h) p e R s m args below meth c H locs cells slots la QW C hR hP hS hl hF) (fun h => kf (fun q => h (E.mpr q)) p e R s m args below meth c H locs cells slots la QW C hR hP hS hl hF)
theorem Wa_if_lt {x : Int} {off : Int} {tgt : Nat} (hd : decode n.2.1 pc = .ok (.ifCond .lt off, 3)) (ht : (pc : Int) + off = (tgt : Int)) (hx : rg x) (kt : x < 0 → Wa g n d tgt ls st M Q) (kf : ¬ x < 0 → Wa g n d (pc + 3) ls st M Q) : Wa g n d pc ls (vI x :: st) M Q := by
  intro p e R s m args below meth c H locs cells slots la QW C hR hP hS hl hF
  have E0 := rg_eq hx rg_0
  have E := rg_lt hx rg_0
  exact lv_if_lt C.1 C.2.1 hd ht (fun h => kt (E.mp h) p e R s m args below meth c H locs cells slots la QW C hR hP hS hl hF) (fun h => kf (fun q => h (E.mpr q)) p e R s m args below meth c H locs cells slots la QW C hR hP hS hl hF)
theorem Wa_icmp_ge {x y : Int} {off : Int} {tgt : Nat} (hd : decode n.2.1 pc = .ok (.if_icmp .ge off, 3)) (ht : (pc : Int) + off = (tgt : Int)) (hx : rg x) (hy : rg y) (kt : y ≤ x → Wa g n d tgt ls st M Q) (kf : ¬ y ≤ x → Wa g n d (pc + 3) ls st M Q) : Wa g n d pc ls (vI y :: vI x :: st) M Q := by
  intro p e R s m args below meth c H locs cells slots la QW C hR hP hS hl hF
  have E0 := rg_eq hx hy
  have E := rg_le hy hx
  exact lv_icmp_ge C.1 C.2.1 hd ht (fun h => kt (E.mp h) p e R s m args below meth c H locs cells slots la QW C hR hP hS hl hF) (fun h => kf (fun q => h (E.mpr q)) p e R s m args below meth c H locs cells slots la QW C hR hP hS hl hF)
theorem Wa_if_ge {x : Int} {off : Int} {tgt : Nat} (hd : decode n.2.1 pc = .ok (.ifCond .ge off, 3)) (ht : (pc : Int) + off = (tgt : Int)) (hx : rg x) (kt : 0 ≤ x → Wa g n d tgt ls st M Q) (kf : ¬ 0 ≤ x → Wa g n d (pc + 3) ls st M Q) : Wa g n d pc ls (vI x :: st) M Q := by
  intro p e R s m args below meth c H locs cells slots la QW C hR hP hS hl hF
  have E0 := rg_eq hx rg_0
  have E := rg_le rg_0 hx
  exact lv_if_ge C.1 C.2.1 hd ht (fun h => kt (E.mp h) p e R s m args below meth c H locs cells slots la QW C hR hP hS hl hF) (fun h => kf (fun q => h (E.mpr q)) p e R s m args below meth c H locs cells slots la QW C hR hP hS hl hF)
theorem Wa_icmp_gt {x y : Int} {off : Int} {tgt : Nat} (hd : decode n.2.1 pc = .ok (.if_icmp .gt off, 3)) (ht : (pc : Int) + off = (tgt : Int)) (hx : rg x) (hy : rg y) (kt : y < x → Wa g n d tgt ls st M Q) (kf : ¬ y < x → Wa g n d (pc + 3) ls st M Q) : Wa g n d pc ls (vI y :: vI x :: st) M Q := by
  intro p e R s m args below meth c H locs cells slots la QW C hR hP hS hl hF
  have E0 := rg_eq hx hy
  have E := rg_lt hy hx
  exact lv_icmp_gt C.1 C.2.1 hd ht (fun h => kt (E.mp h) p e R s m args below meth c H locs cells slots la QW C hR hP hS hl hF) (fun h => kf (fun q => h (E.mpr q)) p e R s m args below meth c H locs cells slots la QW C hR hP hS hl hF)
theorem Wa_if_gt {x : Int} {off : Int} {tgt : Nat} (hd : decode n.2.1 pc = .ok (.ifCond .gt off, 3)) (ht : (pc : Int) + off = (tgt : Int)) (hx : rg x) (kt : 0 < x → Wa g n d tgt ls st M Q) (kf : ¬ 0 < x → Wa g n d (pc + 3) ls st M Q) : Wa g n d pc ls (vI x :: st) M Q := by
  intro p e R s m args below meth c H locs cells slots la QW C hR hP hS hl hF
  have E0 := rg_eq hx rg_0
  have E := rg_lt rg_0 hx
  exact lv_if_gt C.1 C.2.1 hd ht (fun h => kt (E.mp h) p e R s m args below meth c H locs cells slots la QW C hR hP hS hl hF) (fun h => kf (fun q => h (E.mpr q)) p e R s m args below meth c H locs cells slots la QW C hR hP hS hl hF)
theorem Wa_icmp_le {x y : Int} {off : Int} {tgt : Nat} (hd : decode n.2.1 pc = .ok (.if_icmp .le off, 3)) (ht : (pc : Int) + off = (tgt : Int)) (hx : rg x) (hy : rg y) (kt : x ≤ y → Wa g n d tgt ls st M Q) (kf : ¬ x ≤ y → Wa g n d (pc + 3) ls st M Q) : Wa g n d pc ls (vI y :: vI x :: st) M Q := by
  intro p e R s m args below meth c H locs cells slots la QW C hR hP hS hl hF
  have E0 := rg_eq hx hy
  have E := rg_le hx hy
  exact lv_icmp_le C.1 C.2.1 hd ht (fun h => kt (E.mp h) p e R s m args below meth c H locs cells slots la QW C hR hP hS hl hF) (fun h => kf (fun q => h (E.mpr q)) p e R s m args below meth c H locs cells slots la QW C hR hP hS hl hF)
theorem Wa_if_le {x : Int} {off : Int} {tgt : Nat} (hd : decode n.2.1 pc = .ok (.ifCond .le off, 3)) (ht : (pc : Int) + off = (tgt : Int)) (hx : rg x) (kt : x ≤ 0 → Wa g n d tgt ls st M Q) (kf : ¬ x ≤ 0 → Wa g n d (pc + 3) ls st M Q) : Wa g n d pc ls (vI x :: st) M Q := by
  intro p e R s m args below meth c H locs cells slots la QW C hR hP hS hl hF
  have E0 := rg_eq hx rg_0
  have E := rg_le hx rg_0
  exact lv_if_le C.1 C.2.1 hd ht (fun h => kt (E.mp h) p e R s m args below meth c H locs cells slots la QW C hR hP hS hl hF) (fun h => kf (fun q => h (E.mpr q)) p e R s m args below meth c H locs cells slots la QW C hR hP hS hl hF)
theorem Wa_goto {off : Int} {tgt : Nat} (hd : decode n.2.1 pc = .ok (.goto off, 3)) (ht : (pc : Int) + off = (tgt : Int)) (k : Wa g n d tgt ls st M Q) : Wa g n d pc ls st M Q := by
  intro p e R s m args below meth c H locs cells slots la QW C hR hP hS hl hF
  exact lv_goto C.1 C.2.1 hd ht (k p e R s m args below meth c H locs cells slots la QW C hR hP hS hl hF)
theorem Wa_tabOut {dflt lo hi : Int} {offs : Array Int} {len : Nat} {x : Int} {tgt : Nat} (hd : decode n.2.1 pc = .ok (.tableswitch dflt lo hi offs, len)) (hx : rg x) (h : x < lo ∨ hi < x) (ht : (pc : Int) + dflt = (tgt : Int)) (k : Wa g n d tgt ls st M Q) : Wa g n d pc ls (vI x :: st) M Q := by
  intro p e R s m args below meth c H locs cells slots la QW C hR hP hS hl hF
  exact lv_tableOut C.1 C.2.1 hd (by rw [rg_back hx]; exact h) ht (k p e R s m args below meth c H locs cells slots la QW C hR hP hS hl hF)
theorem Wa_tabIn {dflt lo hi : Int} {offs : Array Int} {len : Nat} {x : Int} {off : Int} {tgt : Nat} (hd : decode n.2.1 pc = .ok (.tableswitch dflt lo hi offs, len)) (hx : rg x) (h1 : ¬ x < lo) (h2 : ¬ hi < x) (ho : offs[(x - lo).toNat]? = some off) (ht : (pc : Int) + off = (tgt : Int)) (k : Wa g n d tgt ls st M Q) : Wa g n d pc ls (vI x :: st) M Q := by
  intro p e R s m args below meth c H locs cells slots la QW C hR hP hS hl hF
  exact lv_tableIn C.1 C.2.1 hd (by rw [rg_back hx]; exact h1) (by rw [rg_back hx]; exact h2) (by rw [rg_back hx]; exact ho) ht (k p e R s m args below meth c H locs cells slots la QW C hR hP hS hl hF)
theorem Wa_sub {ls' : List (Nat × AV)} (ks : List Nat) (h : ks.filterMap (fun k => ls[k]?) = ls') (k : Wa g n d pc ls' st M Q) : Wa g n d pc ls st M Q := by
  intro p e R s m args below meth c H locs cells slots la QW C hR hP hS hl hF
  refine k p e R s m args below meth c H locs cells slots la QW C hR hP hS ⟨hl.1, hl.2.1, fun q hq => ?_⟩ hF
  refine hl.2.2 q ?_
  obtain ⟨x, hx, rfl⟩ := List.mem_map.mp hq
  rw [← h] at hx
  obtain ⟨j, -, hj⟩ := List.mem_filterMap.mp hx
  exact List.mem_map.mpr ⟨x, List.mem_of_getElem? hj, rfl⟩
theorem Wa_rm (k : RM M → Wa g n d pc ls st M Q) : Wa g n d pc ls st M Q := by
  intro p e R s m args below meth c H locs cells slots la QW C hR hP hS hl hF
  exact k hR p e R s m args below meth c H locs cells slots la QW C hR hP hS hl hF
theorem Wa_ireturn {z : Int} (hd : decode n.2.1 pc = .ok (.ireturn, 1)) (hr : n.2.2.2 = some .int) (k : Q (some (vI z)) M) : Wa g n d pc ls [vI z] M Q := by
  intro p e R s m args below meth c H locs cells slots la QW C hR hP hS hl hF
  exact hF (some (vI z)) M H locs pc la k hR hP hS ⟨hd, Or.inl hr⟩
theorem Wa_zreturn {z : Int} (hd : decode n.2.1 pc = .ok (.ireturn, 1)) (hr : n.2.2.2 = some .boolean) (hz : z = 0 ∨ z = 1) (k : Q (some (vI z)) M) : Wa g n d pc ls [vI z] M Q := by
  intro p e R s m args below meth c H locs cells slots la QW C hR hP hS hl hF
  exact hF (some (vI z)) M H locs pc la k hR hP hS ⟨hd, Or.inr ⟨hr, hz⟩⟩
theorem Wa_lreturn {z : Int} (hd : decode n.2.1 pc = .ok (.lreturn, 1)) (hr : n.2.2.2 = some .long) (k : Q (some (vL z)) M) : Wa g n d pc ls [vL z] M Q := by
  intro p e R s m args below meth c H locs cells slots la QW C hR hP hS hl hF
  exact hF (some (vL z)) M H locs pc la k hR hP hS ⟨hd, hr⟩
theorem Wa_freturn {z : UInt32} (hd : decode n.2.1 pc = .ok (.freturn, 1)) (hr : n.2.2.2 = some .float) (k : Q (some (vF z)) M) : Wa g n d pc ls [vF z] M Q := by
  intro p e R s m args below meth c H locs cells slots la QW C hR hP hS hl hF
  exact hF (some (vF z)) M H locs pc la k hR hP hS ⟨hd, hr⟩
theorem Wa_return (hd : decode n.2.1 pc = .ok (.return_, 1)) (hr : n.2.2.2 = none) (k : Q none M) : Wa g n d pc ls [] M Q := by
  intro p e R s m args below meth c H locs cells slots la QW C hR hP hS hl hF
  exact hF none M H locs pc la k hR hP hS ⟨hd, hr⟩
end AROWS
end
section
/-! rows that read and write cells, and calls -/
def CF (ci : Nat) (C : String) (T : u_T) (N : Nat) (ty : Nat → FieldType) : Prop := vwCl[ci]? = some (C, T, N) ∧ (∀ w ∈ u_ws C T N, w ∈ WT) ∧ (∀ k, k < N → parseFieldDescriptor (T k).2.2.1 = some (ty k)) ∧ (∀ a, a < N → ∀ b, b < N → a ≠ b → (T a).2.1 ≠ (T b).2.1)
def LK (own : String) (idx : Nat) (t : String × String × String × Bool) : Prop := Cond.fieldLink own idx t.1 t.2.1 t.2.2.1 ∈ WT ∨ ∃ host, Cond.fieldLinkNest own idx t.1 t.2.1 t.2.2.1 host ∈ lw_tbl
theorem noHash {k ci j : Nat} {fs : List (Nat ⊕ Bool)} (hk : KD[k]? = some (.inl (ci, fs))) (hf : fs[j]? = some (.inr false)) : ¬ (k = 88 ∧ j = 32) := by
  rintro ⟨rfl, rfl⟩
  rw [k_88] at hk
  cases hk
  cases hf
theorem noHashA {k j len : Nat} (hk : KD[k]? = some (.inr (.inl len))) : ¬ (k = 88 ∧ j = 32) := by
  rintro ⟨rfl, rfl⟩
  rw [k_88] at hk
  cases hk
theorem inb_vp {z : Int} {len : Nat} (h : 0 ≤ z ∧ z < len) (hl : len < 2147483648) : vp_in (Int32.ofInt z) len ∧ (Int32.ofInt z).toNatClampNeg = z.toNat := by
  have e : (Int32.ofInt z).toInt = z := rg_back ⟨by omega, by omega⟩
  have e2 : (Int32.ofInt z).toNatClampNeg = z.toNat := Int32.toNatClampNeg_ofInt_of_le (by omega) (by omega)
  exact ⟨vp_in_iff.mpr (by rw [e]; exact h), e2⟩
theorem KD_len_lt {k len : Nat} (hk : KD[k]? = some (.inr (.inl len))) : len < 2147483648 := by
  have h : KD.all (fun x => match x with | .inr (.inl l) => decide (l < 2147483648) | .inr (.inr (l, _)) => decide (l < 2147483648) | _ => true) = true := by decide +kernel
  have := List.all_eq_true.mp h _ (List.mem_of_getElem? hk)
  simpa using this
theorem KD_mat_lt {k len f : Nat} (hk : KD[k]? = some (.inr (.inr (len, f)))) : len < 2147483648 := by
  have h : KD.all (fun x => match x with | .inr (.inl l) => decide (l < 2147483648) | .inr (.inr (l, _)) => decide (l < 2147483648) | _ => true) = true := by decide +kernel
  have := List.all_eq_true.mp h _ (List.mem_of_getElem? hk)
  simpa using this
section AMEM
variable {g : AG} {n : MI} {d pc : Nat} {ls : List (Nat × AV)} {st : List AV} {M : AM} {Q : Option AV → AM → Prop}
theorem Wa_getV {k ci j idx N : Nat} {C : String} {T : u_T} {ty : Nat → FieldType} {fs : List (Nat ⊕ Bool)} {f : Nat ⊕ Bool} {v : AV} (cf : CF ci C T N ty) (hk : KD[k]? = some (.inl (ci, fs))) (hf : fs[j]? = some f) (hv : fvl (gad g) (M k) j f = rv (gad g) v) (hN : j < N) (hl0 : LK n.1.cls idx (T j)) (hd : decode n.2.1 pc = .ok (.getfield idx, 3))
    (kk : Wa g n d (pc + 3) ls (v :: st) M Q) : Wa g n d pc ls (vR k :: st) M Q := by
  intro p e R s m args below meth c H locs cells slots la QW C0 hR hP hS hl hF
  have K := kk p e R s m args below meth c H locs cells slots la QW C0 hR hP hS hl hF
  have hSF := C0.2.2.2.2.2.2.2.2.2.2
  have hv2 : (fvs (gad g) (M k) 0 fs)[j]? = some (rv (gad g) v) := by rw [fvs_get, hf, Nat.zero_add, ← hv]; rfl
  rcases hl0 with h | ⟨host, h⟩
  · exact va_get (D := gD g) (ci := ci) (C := C) (T := T) (N := N) C0.1 C0.2.1 (fun w hw => hSF.1 w hw args) cf.2.1 C0.2.2.2.1 hSF.2.1 hP k (wl_obj hk) cf.1 j hN (hSF.1 _ h _) (fun _ h9 => h9) hv2 hd K
  · exact va_getN (D := gD g) (ci := ci) (C := C) (T := T) (N := N) C0.1 C0.2.1 (fun w hw => hSF.1 w hw args) cf.2.1 C0.2.2.2.1 hSF.2.1 hP k (wl_obj hk) cf.1 j hN (va_Nw.use rfl (hSF.2.2.1 _ h rfl)) (fun _ h9 => h9) hv2 hd K
theorem Wa_getI {k ci j idx N : Nat} {C : String} {T : u_T} {ty : Nat → FieldType} {fs : List (Nat ⊕ Bool)} (cf : CF ci C T N ty) (hl0 : LK n.1.cls idx (T j)) (hk : KD[k]? = some (.inl (ci, fs))) (hf : fs[j]? = some (.inr false)) (hN : j < N) (hd : decode n.2.1 pc = .ok (.getfield idx, 3))
    (kk : rg (M k j) → Wa g n d (pc + 3) ls (vI (M k j) :: st) M Q) : Wa g n d pc ls (vR k :: st) M Q :=
  Wa_rm fun hR => Wa_getV cf hk hf rfl hN hl0 hd (kk (hR k j (noHash hk hf)))
theorem Wa_getL {k ci j idx N : Nat} {C : String} {T : u_T} {ty : Nat → FieldType} {fs : List (Nat ⊕ Bool)} (cf : CF ci C T N ty) (hl0 : LK n.1.cls idx (T j)) (hk : KD[k]? = some (.inl (ci, fs))) (hf : fs[j]? = some (.inr true)) (hN : j < N) (hd : decode n.2.1 pc = .ok (.getfield idx, 3))
    (kk : Wa g n d (pc + 3) ls (vL (M k j) :: st) M Q) : Wa g n d pc ls (vR k :: st) M Q := Wa_getV cf hk hf rfl hN hl0 hd kk
theorem Wa_getR {k ci j idx N r : Nat} {C : String} {T : u_T} {ty : Nat → FieldType} {fs : List (Nat ⊕ Bool)} (cf : CF ci C T N ty) (hl0 : LK n.1.cls idx (T j)) (hk : KD[k]? = some (.inl (ci, fs))) (hf : fs[j]? = some (.inl r)) (hN : j < N) (hd : decode n.2.1 pc = .ok (.getfield idx, 3))
    (kk : Wa g n d (pc + 3) ls (vR r :: st) M Q) : Wa g n d pc ls (vR k :: st) M Q := Wa_getV cf hk hf rfl hN hl0 hd kk
theorem Wa_putV {k ci j idx N : Nat} {C : String} {T : u_T} {ty : Nat → FieldType} {fs : List (Nat ⊕ Bool)} {f : Nat ⊕ Bool} {v : AV} {z : Int} (cf : CF ci C T N ty) (hk : KD[k]? = some (.inl (ci, fs))) (hf : fs[j]? = some f) (hv : ∀ M' : Nat → Int, M' j = z → fvl (gad g) M' j f = rv (gad g) v) (hN : j < N) (hl0 : LK n.1.cls idx (T j)) (hfin : (T j).2.2.2 = false) (hn : narrow (ty j) (rv (gad g) v) = rv (gad g) v) (hfit : fits (ty j) (rv (gad g) v) = true) (hRM : RM M → RM (mU M k j z)) (hd : decode n.2.1 pc = .ok (.putfield idx, 3))
    (kk : Wa g n d (pc + 3) ls st (mU M k j z) Q) : Wa g n d pc ls (v :: vR k :: st) M Q := by
  intro p e R s m args below meth c H locs cells slots la QW C0 hR hP hS hl hF
  have hSF := C0.2.2.2.2.2.2.2.2.2.2
  have hD : va_D (gA g) (wl g M) := va_D_wl hSF.2.2.2.2.2.2.1 hSF.2.2.2.2.2.2.2.1
  have hlen : j < fs.length := (List.getElem?_eq_some_iff.mp hf).1
  have hE : (wl g M).set k (gad g k, .inr (ci, (fvs (gad g) (M k) 0 fs).set j (rv (gad g) v))) = wl g (mU M k j z) := by
    refine wl_set (KD_lt hk) (fun k' h => mU_ne h) ?_
    simp only [cel, hk]
    rw [fvs_eq (M' := mU M k j z k) (gad g) hlen (fun j' h => mU_nej h) (by rw [hf]; exact congrArg some (hv _ mU_at))]
  have K : ∀ (H1 : Heap) (locs1 : List Loc), va_P (gD g) vwCl ((wl g M).set k (gad g k, .inr (ci, (fvs (gad g) (M k) 0 fs).set j (rv (gad g) v)))) H1 → va_D (gA g) ((wl g M).set k (gad g k, .inr (ci, (fvs (gad g) (M k) 0 fs).set j (rv (gad g) v)))) → va_S (gA g) s.heap H1 locs1 → W p (gl g) e R s m args below meth c H1 locs1 cells slots QW (F0 m (pc + 3) la (st.map (rv (gad g)))) := by
    intro H1 locs1 hP1 _ hS1
    rw [hE] at hP1
    exact kk p e R s m args below meth c H1 locs1 cells slots la QW C0 (hRM hR) hP1 hS1 hl hF
  rcases hl0 with h | ⟨host, h⟩
  · exact va_put (D := gD g) (ci := ci) (C := C) (T := T) (N := N) C0.1 C0.2.1 (fun w hw => hSF.1 w hw args) cf.2.1 ty cf.2.2.1 cf.2.2.2 C0.2.2.2.1 hSF.2.1 hP hD hS k (wl_obj hk) cf.1 j hN (hSF.1 _ h _) (fun _ h9 => h9) hfin (cf.2.2.1 j hN) hn hfit (by rw [fvs_len]; exact hlen) hd K
  · exact va_putN (D := gD g) (ci := ci) (C := C) (T := T) (N := N) C0.1 C0.2.1 (fun w hw => hSF.1 w hw args) cf.2.1 ty cf.2.2.1 cf.2.2.2 C0.2.2.2.1 hSF.2.1 hP hD hS k (wl_obj hk) cf.1 j hN (va_Nw.use rfl (hSF.2.2.1 _ h rfl)) (fun _ h9 => h9) hfin (cf.2.2.1 j hN) hn hfit (by rw [fvs_len]; exact hlen) hd K
theorem Wa_putI {k ci j idx N : Nat} {C : String} {T : u_T} {ty : Nat → FieldType} {fs : List (Nat ⊕ Bool)} {z : Int} (cf : CF ci C T N ty) (hl0 : LK n.1.cls idx (T j)) (hk : KD[k]? = some (.inl (ci, fs))) (hf : fs[j]? = some (.inr false)) (hN : j < N) (hfin : (T j).2.2.2 = false) (hty : ty j = .int) (hz : rg z) (hd : decode n.2.1 pc = .ok (.putfield idx, 3))
    (kk : Wa g n d (pc + 3) ls st (mU M k j z) Q) : Wa g n d pc ls (vI z :: vR k :: st) M Q :=
  Wa_putV cf hk hf (fun M' h => by rw [← h]; rfl) hN hl0 hfin (by rw [hty]; rfl) (by rw [hty]; rfl) (fun h => RM_mU h hz) hd kk
theorem Wa_putZ {k ci j idx N : Nat} {C : String} {T : u_T} {ty : Nat → FieldType} {fs : List (Nat ⊕ Bool)} {z : Int} (cf : CF ci C T N ty) (hl0 : LK n.1.cls idx (T j)) (hk : KD[k]? = some (.inl (ci, fs))) (hf : fs[j]? = some (.inr false)) (hN : j < N) (hfin : (T j).2.2.2 = false) (hty : ty j = .boolean) (hz : z = 0 ∨ z = 1) (hd : decode n.2.1 pc = .ok (.putfield idx, 3))
    (kk : Wa g n d (pc + 3) ls st (mU M k j z) Q) : Wa g n d pc ls (vI z :: vR k :: st) M Q :=
  Wa_putV cf hk hf (fun M' h => by rw [← h]; rfl) hN hl0 hfin (by rw [hty]; exact nar_bool hz) (by rw [hty]; exact fit_bool hz) (fun h => RM_mU h (by rcases hz with rfl | rfl <;> exact ⟨by decide, by decide⟩)) hd kk
theorem Wa_putL {idx N : Nat} {C : String} {T : u_T} {ty : Nat → FieldType} {z : Int} (cf : CF 9 C T N ty) (hl0 : LK n.1.cls idx (T 32)) (hN : 32 < N) (hfin : (T 32).2.2.2 = false) (hty : ty 32 = .long) (hd : decode n.2.1 pc = .ok (.putfield idx, 3))
    (kk : Wa g n d (pc + 3) ls st (mU M 88 32 z) Q) : Wa g n d pc ls (vL z :: vR 88 :: st) M Q :=
  Wa_putV cf k_88 (j := 32) (f := .inr true) rfl (fun M' h => by rw [← h]; rfl) hN hl0 hfin (by rw [hty]; rfl) (by rw [hty]; rfl) (fun h => RM_mUl h) hd kk
theorem Wa_iald {k len : Nat} {z : Int} (hk : KD[k]? = some (.inr (.inl len))) (hz : 0 ≤ z ∧ z < len) (hd : decode n.2.1 pc = .ok (.iaload, 1))
    (kk : rg (M k z.toNat) → Wa g n d (pc + 1) ls (vI (M k z.toNat) :: st) M Q) : Wa g n d pc ls (vI z :: vR k :: st) M Q := by
  intro p e R s m args below meth c H locs cells slots la QW C0 hR hP hS hl hF
  have hSF := C0.2.2.2.2.2.2.2.2.2.2
  obtain ⟨h1, h2⟩ := inb_vp hz (KD_len_lt hk)
  have K := kk (hR k _ (noHashA hk)) p e R s m args below meth c H locs cells slots la QW C0 hR hP hS hl hF
  refine va_iald (D := gD g) C0.1 C0.2.1 hSF.2.1 hP k 0 (wl_arr hk) rfl h1 hd ?_
  rw [h2]
  exact K
theorem Wa_iast {k len : Nat} {z x : Int} (hk : KD[k]? = some (.inr (.inl len))) (hz : 0 ≤ z ∧ z < len) (hx : rg x) (hd : decode n.2.1 pc = .ok (.iastore, 1))
    (kk : Wa g n d (pc + 1) ls st (mU M k z.toNat x) Q) : Wa g n d pc ls (vI x :: vI z :: vR k :: st) M Q := by
  intro p e R s m args below meth c H locs cells slots la QW C0 hR hP hS hl hF
  have hSF := C0.2.2.2.2.2.2.2.2.2.2
  have hD : va_D (gA g) (wl g M) := va_D_wl hSF.2.2.2.2.2.2.1 hSF.2.2.2.2.2.2.2.1
  obtain ⟨h1, h2⟩ := inb_vp hz (KD_len_lt hk)
  refine va_iast (D := gD g) C0.1 C0.2.1 hSF.2.1 hP hD hS k 0 (wl_arr hk) rfl h1 hd (fun H1 locs1 hP1 _ hS1 => ?_)
  have hE : (wl g M).set k (gad g k, .inl (gcI g, len, .inl (upd (fun j => Int32.ofInt (M k j)) (Int32.ofInt z).toNatClampNeg (Int32.ofInt x)))) = wl g (mU M k z.toNat x) := by
    refine wl_set (KD_lt hk) (fun k' h => mU_ne h) ?_
    simp only [cel, hk, h2]
    congr 4
    funext j
    by_cases e : j = z.toNat
    · subst e
      rw [mU_at, pk_us]
    · rw [mU_nej e, pk_un e]
  rw [hE] at hP1
  exact kk p e R s m args below meth c H1 locs1 cells slots la QW C0 (RM_mU hR hx) hP1 hS1 hl hF
theorem Wa_alen {k len : Nat} (hk : KD[k]? = some (.inr (.inl len))) (hd : decode n.2.1 pc = .ok (.arraylength, 1))
    (kk : Wa g n d (pc + 1) ls (vI (len : Int) :: st) M Q) : Wa g n d pc ls (vR k :: st) M Q := by
  intro p e R s m args below meth c H locs cells slots la QW C0 hR hP hS hl hF
  have hSF := C0.2.2.2.2.2.2.2.2.2.2
  exact va_alen (D := gD g) C0.1 C0.2.1 hSF.2.1 hP k 0 (wl_arr hk) rfl (Int32.ofInt_eq_ofNat (n := len)).symm hd (kk p e R s m args below meth c H locs cells slots la QW C0 hR hP hS hl hF)
theorem Wa_aald {k len f : Nat} {z : Int} (hk : KD[k]? = some (.inr (.inr (len, f)))) (hz : 0 ≤ z ∧ z < len) (hd : decode n.2.1 pc = .ok (.aaload, 1))
    (kk : Wa g n d (pc + 1) ls (vR (f + z.toNat) :: st) M Q) : Wa g n d pc ls (vI z :: vR k :: st) M Q := by
  intro p e R s m args below meth c H locs cells slots la QW C0 hR hP hS hl hF
  have hSF := C0.2.2.2.2.2.2.2.2.2.2
  obtain ⟨h1, h2⟩ := inb_vp hz (KD_mat_lt hk)
  have hlt : z.toNat < len := by omega
  have K := kk p e R s m args below meth c H locs cells slots la QW C0 hR hP hS hl hF
  refine W.aald (v := va_rf (if z.toNat < len then some (gad g (f + z.toNat)) else none)) (ty := .array .int) C0.1 C0.2.1 (hP k _ (wl_mat hk)) ((hSF.2.1.2 1 _ rfl).1 len _) rfl (fun q => by cases q) (by show ¬ (_ ∨ (arrV _ _ _).slots.size ≤ _); rw [arrV_size]; exact h1) (by show (arrV _ _ _).slots[_]? = _; rw [h2, arrV_read _ _ hlt]) rfl rfl hd ?_
  rw [if_pos hlt]
  exact K
theorem Wa_kab {z : Int} (hz : 0 ≤ z ∧ z < 5) (hd : decode n.2.1 pc = .ok (.iaload, 1))
    (kk : Wa g n d (pc + 1) ls (vI ([-1, 0, 0, 2, 3].getD z.toNat 0) :: st) M Q) : Wa g n d pc ls (vI z :: vR 109 :: st) M Q := by
  intro p e R s m args below meth c H locs cells slots la QW C0 hR hP hS hl hF
  have hSF := C0.2.2.2.2.2.2.2.2.2.2
  obtain ⟨h1, h2⟩ := inb_vp (len := 5) hz (by decide)
  have K := kk p e R s m args below meth c H locs cells slots la QW C0 hR hP hS hl hF
  obtain ⟨cell, q1, q2, q3, q4, q5, q6, q7⟩ := hSF.2.2.2.2.2.1.kept (H1 := H) hS.2.1
  have hi : (Int32.ofInt z).toNatClampNeg < 5 := by rw [h2]; omega
  exact W.iald C0.1 C0.2.1 q1 q2 q3 (fun h => h1 (h.elim Or.inl (fun h => Or.inr (Nat.le_trans q4 h)))) ((q6 _ hi).trans (by rw [h2]; rfl)) rfl rfl hd K
theorem Wa_gkab {idx : Nat} (hw : Cond.fieldLink n.1.cls idx "LineScript" "KIND_ABOVE" "[I" ∈ WT) (hd : decode n.2.1 pc = .ok (.getstatic idx, 3)) (kk : Wa g n d (pc + 3) ls (vR 109 :: st) M Q) : Wa g n d pc ls st M Q := by
  intro p e R s m args below meth c H locs cells slots la QW C0 hR hP hS hl hF
  have hSF := C0.2.2.2.2.2.2.2.2.2.2
  exact va_gets C0.1 C0.2.1 hSF.2.2.2.2.1 hS C0.2.2.2.1 (hSF.1 _ hw _) (fun _ h => h) hd (kk p e R s m args below meth c H locs cells slots la QW C0 hR hP hS hl hF)
theorem Wa_sld {z : Int} (hz : 0 ≤ z ∧ z < gLn g) (hL : gLn g < 2147483648) (hd : decode n.2.1 pc = .ok (.iaload, 1))
    (kk : Wa g n d (pc + 1) ls (vI (gxs g z.toNat).toInt :: st) M Q) : Wa g n d pc ls (vI z :: vR 108 :: st) M Q := by
  intro p e R s m args below meth c H locs cells slots la QW C0 hR hP hS hl hF
  have hSF := C0.2.2.2.2.2.2.2.2.2.2
  obtain ⟨h1, h2⟩ := inb_vp hz hL
  have K := kk p e R s m args below meth c H locs cells slots la QW C0 hR hP hS hl hF
  refine va_sld C0.1 C0.2.1 hSF.2.2.2.1 (Nat.lt_of_lt_of_le hSF.2.2.2.2.2.2.2.2.1 hSF.2.2.2.2.2.2.2.2.2) (Nat.not_le.mpr hSF.2.2.2.2.2.2.2.2.1) hS h1 hd ?_
  rw [h2]
  simp only [List.map_cons, rv, Int32.ofInt_toInt] at K
  exact K
theorem Wa_slen (hd : decode n.2.1 pc = .ok (.arraylength, 1)) (kk : Wa g n d (pc + 1) ls (vI (gLn g : Int) :: st) M Q) : Wa g n d pc ls (vR 108 :: st) M Q := by
  intro p e R s m args below meth c H locs cells slots la QW C0 hR hP hS hl hF
  have hSF := C0.2.2.2.2.2.2.2.2.2.2
  have K := kk p e R s m args below meth c H locs cells slots la QW C0 hR hP hS hl hF
  refine va_slen C0.1 C0.2.1 hSF.2.2.2.1 (Nat.lt_of_lt_of_le hSF.2.2.2.2.2.2.2.2.1 hSF.2.2.2.2.2.2.2.2.2) (Nat.not_le.mpr hSF.2.2.2.2.2.2.2.2.1) hS hd ?_
  rw [← Int32.ofInt_eq_ofNat]
  exact K
def rsum (st : List AV) : Nat := (st.map (fun v => if isW v = true then 2 else 1)).sum
theorem rsum_rv (ad : Nat → Nat) (st : List AV) : ((st.map (rv ad)).map fun v => v.category).sum = rsum st := by
  unfold rsum
  rw [List.map_map]
  congr 1
  apply List.map_congr_left
  intro v _
  simp only [Function.comp]
  rcases v with z | z | z | z | z <;> rfl
theorem Wa_mmax {x y : Int} {idx : Nat} (w1 : Cond.methodLink n.1.cls idx Lib.Math.max.name ∈ WT) (w2 : Cond.static Lib.Math.max.name ∈ WT) (w3 : Cond.initialized "java/lang/Math" ∈ WT) (w4 : Cond.code Lib.Math.max.name Lib.Math.max.code 2 (some .int) ∈ WT) (hx : rg x) (hy : rg y) (hdd : 1 ≤ d) (hst : rsum st ≤ 8) (hd : decode n.2.1 pc = .ok (.invokestatic idx, 3))
    (kk : Wa g n d (pc + 3) ls (vI (if x < y then y else x) :: st) M Q) : Wa g n d pc ls (vI y :: vI x :: st) M Q := by
  intro p e R s m args below meth c H locs cells slots la QW C0 hR hP hS hl hF
  have K := kk p e R s m args below meth c H locs cells slots la QW C0 hR hP hS hl hF
  obtain ⟨e1, e2, e3, e4, e5, e6, e7, e8, e9, e10, hSF⟩ := C0
  refine va_mmax e1 e2 (e3.trans hl.1.symm) e4 (hSF.1 _ w1 _) (hSF.1 _ w2 _) (hSF.1 _ w3 _) (hSF.1 _ w4 _) (by omega) (by rw [rsum_rv]; omega) e9 e10 hd ?_
  simp only [List.map_cons, rv] at K
  have E := rg_lt hx hy
  by_cases h : x < y
  · rw [if_pos h] at K
    rw [if_pos (E.mpr h)]
    exact K
  · rw [if_neg h] at K
    rw [if_neg (fun q => h (E.mp q))]
    exact K
theorem Wa_mmin {x y : Int} {idx : Nat} (w1 : Cond.methodLink n.1.cls idx Lib.Math.min.name ∈ WT) (w2 : Cond.static Lib.Math.min.name ∈ WT) (w3 : Cond.initialized "java/lang/Math" ∈ WT) (w4 : Cond.code Lib.Math.min.name Lib.Math.min.code 2 (some .int) ∈ WT) (hx : rg x) (hy : rg y) (hdd : 1 ≤ d) (hst : rsum st ≤ 8) (hd : decode n.2.1 pc = .ok (.invokestatic idx, 3))
    (kk : Wa g n d (pc + 3) ls (vI (if y < x then y else x) :: st) M Q) : Wa g n d pc ls (vI y :: vI x :: st) M Q := by
  intro p e R s m args below meth c H locs cells slots la QW C0 hR hP hS hl hF
  have K := kk p e R s m args below meth c H locs cells slots la QW C0 hR hP hS hl hF
  obtain ⟨e1, e2, e3, e4, e5, e6, e7, e8, e9, e10, hSF⟩ := C0
  refine va_mmin e1 e2 (e3.trans hl.1.symm) e4 (hSF.1 _ w1 _) (hSF.1 _ w2 _) (hSF.1 _ w3 _) (hSF.1 _ w4 _) (by omega) (by rw [rsum_rv]; omega) e9 e10 hd ?_
  simp only [List.map_cons, rv] at K
  have E := rg_lt hy hx
  by_cases h : y < x
  · rw [if_pos h] at K
    rw [if_pos (E.mpr h)]
    exact K
  · rw [if_neg h] at K
    rw [if_neg (fun q => h (E.mp q))]
    exact K
/-- a call's fact: the link, the callee's code -/
def LC (own : String) (idx : Nat) (n' : MI) : Prop := (Cond.methodLink own idx n'.1 ∈ WT ∨ ∃ host, Cond.methodLinkNest own idx n'.1 host ∈ lw_tbl)
def CC (n' : MI) (cnt : Nat) : Prop := Cond.code n'.1 n'.2.1 n'.2.2.1 n'.2.2.2 ∈ WT ∧ Cond.initialized n'.1.cls ∈ WT ∧ (n'.1.cls ≠ "java/lang/invoke/MethodHandle" ∧ n'.1.cls ≠ "java/lang/invoke/VarHandle" ∧ (parseMethodDescriptor n'.1.desc).map (fun d => d.parameters.length) = some cnt) ∧ n'.2.2.1 ≤ 40
def CV (n' : MI) (cnt : Nat) : Prop := CC n' cnt ∧ Cond.instanceMethod n'.1 ∈ WT ∧ Cond.selects n'.1.cls n'.1 n'.1 ∈ WT
def CS (n' : MI) (cnt : Nat) : Prop := CC n' cnt ∧ Cond.static n'.1 ∈ WT
theorem blindA {as : List AV} : FrameBlind (mPc g as M) := fun a U f mk h => ⟨h.1, SF_calling f mk a h.2.1, h.2.2⟩
theorem Wa_back {p : Program} {e : Env} {R : Room} {s : State} {m : MethodId} {args : Array Value} {below : List Frame} {meth : Method} {c : Code} {H : Heap} {locs : List Loc} {cells slots : Nat} {la : Array Slot} {QW : State → Prop} {Q1 : Option AV → AM → Prop} {st0 : List Value} {a : Array Value}
    (C0 : Cx g n d p R s m meth c cells slots) (hS : va_S (gA g) s.heap H locs) (hl : lv_has la n.2.2.1 (ls.map (rvp (gad g))))
    (hF : ∀ (r : Option AV) (M' : AM) (H' : Heap) (locs' : List Loc) (pc' : Nat) (la' : Array Slot), Q r M' → RM M' → va_P (gD g) vwCl (wl g M') H' → va_S (gA g) s.heap H' locs' → RT n pc' r →
      W p (gl g) e R s m args below meth c H' locs' cells slots QW (F0 m pc' la' (r.toList.map (rv (gad g)))))
    (kk : ∀ r M1, Q1 r M1 → Wa g n d (pc + 3) ls (r.toList ++ st) M1 Q)
    (hr : va_Run p (gl g) e R s m args below meth c H locs cells slots 0 0 (F0 m pc la st0) (st.map (rv (gad g))) (mQc g Q1 a) (gA g)) : W p (gl g) e R s m args below meth c H locs cells slots QW (F0 m pc la st0) := by
  intro T hT X
  obtain ⟨v, st₀, t, T', L, h0, X', hL, e1, e2, ⟨⟨r, M1, hv, hq, hRM1, hP1⟩, hz, hk⟩, go⟩ := hr T hT X
  have hv' : v = r.map (rv (gad g)) := Outcome.returned.inj hv
  subst hv'
  rw [h0] at hz hk
  have hS1 : va_S (gA g) s.heap T'.heap (locs ++ L) := ⟨Nat.le_trans hS.1 (by rw [e1]; exact hz), fun q h1 h2 => by rw [e1, hk q (Nat.lt_of_lt_of_le h1 hS.1) h2]; exact hS.2.1 q h1 h2, fun q hq => by
    rcases List.mem_append.mp hq with h | h
    · exact hS.2.2 q h
    · exact hL q h⟩
  have K := kk r M1 hq p e R s m args below meth c T'.heap (locs ++ L) cells slots la QW C0 hRM1 (by rw [e1]; exact hP1) hS1 hl hF T' rfl X'
  obtain ⟨t2, a1, b1⟩ := K
  refine ⟨t2, go t2 ?_, b1⟩
  have hst : (r.map (rv (gad g))).toList ++ st.map (rv (gad g)) = (r.toList ++ st).map (rv (gad g)) := by cases r <;> rfl
  show Steps p.tables e below (T'.setTop { (F0 m pc la st0) with pc := pc + 3, stack := (r.map (rv (gad g))).toList ++ st.map (rv (gad g)) }) t2
  rw [hst]
  exact a1
set_option maxHeartbeats 4000000 in
theorem Wa_callV {n' : MI} {d' b ci cnt idx N : Nat} {C : String} {T : u_T} {ty : Nat → FieldType} {fs : List (Nat ⊕ Bool)} {Q1 : Option AV → AM → Prop} (as sk : List AV) (cf : CF ci C T N ty) (hC : C = n'.1.cls) (hk : KD[b]? = some (.inl (ci, fs))) (hlc : LC n.1.cls idx n') (hcv : CV n' cnt) (hcnt : as.length = cnt) (hsk : as.reverse ++ vR b :: st = sk) (hdd : d' + 1 ≤ d) (hst : rsum st ≤ 8) (hd : decode n.2.1 pc = .ok (.invokevirtual idx, 3))
    (hM : MetA g n' d' (vR b :: as) M Q1) (kk : ∀ r M1, Q1 r M1 → Wa g n d (pc + 3) ls (r.toList ++ st) M1 Q) : Wa g n d pc ls sk M Q := by
  subst hsk
  intro p e R s m args below meth c H locs cells slots la QW C0 hR hP hS hl hF
  refine Wa_back C0 hS hl hF kk (a := (Value.ref (gad g b) :: as.map (rv (gad g))).toArray) ?_
  obtain ⟨e1, e2, e3, e4, e5, e6, e7, e8, e9, e10, hSF⟩ := C0
  obtain ⟨⟨hcode, hini, hnm, hmx⟩, hinst, hsel⟩ := hcv
  have hG : GoodIn WT [Cond.code n'.1 n'.2.1 n'.2.2.1 n'.2.2.2] := WT_good (fun w hw => by rw [List.mem_singleton.mp hw]; exact hcode)
  have hrm1 : (rmA d').frames + 1 ≤ R.frames := by show d' + 1 ≤ R.frames; omega
  have hrm2 : 8 + (n'.2.2.1 + 11) + (rmA d').locals ≤ R.locals := by show 8 + (n'.2.2.1 + 11) + 64 * d' ≤ R.locals; omega
  have hts : ∀ w ∈ WT, w.before args s = true := fun w hw => hSF.1 w hw args
  have hsel' : Cond.selects C n'.1 n'.1 ∈ WT := by rw [hC]; exact hsel
  have hpre : PreV s H C (gad g b) (mPc g (vR b :: as) M) (as.map (rv (gad g))) := ⟨blindA, va_recv (q := (C, T, N)) hSF.2.1 hP cf.1 (wl_obj hk), fun U hU hW => ⟨rfl, SF_moved hW (by rw [hU]; exact hS.1) (by rw [hU]; exact hS.2.1) hSF, hR, by rw [hU]; exact hP⟩⟩
  have hstk : (F0 m pc la ((as.reverse ++ vR b :: st).map (rv (gad g)))).stack = (as.map (rv (gad g))).reverse ++ .ref (gad g b) :: st.map (rv (gad g)) := by
    show (as.reverse ++ vR b :: st).map (rv (gad g)) = _
    rw [List.map_append, List.map_reverse]
    rfl
  have hw8 : 2 * (F0 m pc la ((as.reverse ++ vR b :: st).map (rv (gad g)))).monitorRoom + ((st.map (rv (gad g))).map fun v => v.category).sum ≤ 8 := lv_room (by rw [rsum_rv]; exact hst)
  rcases hlc with h | ⟨host, h⟩
  · exact va_runV (Ts := WT) (C := C) (n := cnt) (b := gad g b) (As := as.map (rv (gad g))) (rest := st.map (rv (gad g))) ⟨e1, e2, e3, e4, hts⟩ hM ⟨callB_of (Ts := WT) cnt hts hG rfl rfl rfl (hts _ hini) (hts _ h) hnm ⟨hrm1, hrm2⟩, hts _ hinst, hts _ hsel'⟩ hpre rfl (by rw [List.length_map]; exact hcnt) hl.1 hstk hw8 hd ⟨e9, e10⟩
  · exact va_runVN (Ts := WT) (C := C) (n := cnt) (b := gad g b) (As := as.map (rv (gad g))) (rest := st.map (rv (gad g))) ⟨e1, e2, e3, e4, hts⟩ hM ⟨va_cnB (Ts := WT) cnt hts hG rfl rfl rfl (hSF.2.2.1 _ h rfl) (hts _ hini) hnm ⟨hrm1, hrm2⟩, hts _ hinst, hts _ hsel'⟩ hpre rfl (by rw [List.length_map]; exact hcnt) hl.1 hstk hw8 hd ⟨e9, e10⟩
set_option maxHeartbeats 4000000 in
theorem Wa_callS {n' : MI} {d' cnt idx : Nat} {Q1 : Option AV → AM → Prop} (as sk : List AV) (hlc : LC n.1.cls idx n') (hcv : CS n' cnt) (hcnt : as.length = cnt) (hsk : as.reverse ++ st = sk) (hdd : d' + 1 ≤ d) (hst : rsum st ≤ 8) (hd : decode n.2.1 pc = .ok (.invokestatic idx, 3))
    (hM : MetA g n' d' as M Q1) (kk : ∀ r M1, Q1 r M1 → Wa g n d (pc + 3) ls (r.toList ++ st) M1 Q) : Wa g n d pc ls sk M Q := by
  subst hsk
  intro p e R s m args below meth c H locs cells slots la QW C0 hR hP hS hl hF
  refine Wa_back C0 hS hl hF kk (a := (as.map (rv (gad g))).toArray) ?_
  obtain ⟨e1, e2, e3, e4, e5, e6, e7, e8, e9, e10, hSF⟩ := C0
  obtain ⟨⟨hcode, hini, hnm, hmx⟩, hstat⟩ := hcv
  have hG : GoodIn WT [Cond.code n'.1 n'.2.1 n'.2.2.1 n'.2.2.2] := WT_good (fun w hw => by rw [List.mem_singleton.mp hw]; exact hcode)
  have hrm1 : (rmA d').frames + 1 ≤ R.frames := by show d' + 1 ≤ R.frames; omega
  have hrm2 : 8 + (n'.2.2.1 + 11) + (rmA d').locals ≤ R.locals := by show 8 + (n'.2.2.1 + 11) + 64 * d' ≤ R.locals; omega
  have hts : ∀ w ∈ WT, w.before args s = true := fun w hw => hSF.1 w hw args
  have hpre : PreS s H (mPc g as M) (as.map (rv (gad g))) := ⟨blindA, fun U hU hW => ⟨rfl, SF_moved hW (by rw [hU]; exact hS.1) (by rw [hU]; exact hS.2.1) hSF, hR, by rw [hU]; exact hP⟩⟩
  have hstk : (F0 m pc la ((as.reverse ++ st).map (rv (gad g)))).stack = (as.map (rv (gad g))).reverse ++ st.map (rv (gad g)) := by
    show (as.reverse ++ st).map (rv (gad g)) = _
    rw [List.map_append, List.map_reverse]
  have hw8 : 2 * (F0 m pc la ((as.reverse ++ st).map (rv (gad g)))).monitorRoom + ((st.map (rv (gad g))).map fun v => v.category).sum ≤ 8 := lv_room (by rw [rsum_rv]; exact hst)
  rcases hlc with h | ⟨host, h⟩
  · exact va_runS (Ts := WT) (n := cnt) (As := as.map (rv (gad g))) (rest := st.map (rv (gad g))) ⟨e1, e2, e3, e4, hts⟩ hM ⟨callB_of (Ts := WT) cnt hts hG rfl rfl rfl (hts _ hini) (hts _ h) hnm ⟨hrm1, hrm2⟩, hts _ hstat⟩ hpre rfl (by rw [List.length_map]; exact hcnt) hl.1 hstk hw8 hd ⟨e9, e10⟩
  · exact va_runSN (Ts := WT) (n := cnt) (As := as.map (rv (gad g))) (rest := st.map (rv (gad g))) ⟨e1, e2, e3, e4, hts⟩ hM ⟨va_cnB (Ts := WT) cnt hts hG rfl rfl rfl (hSF.2.2.1 _ h rfl) (hts _ hini) hnm ⟨hrm1, hrm2⟩, hts _ hstat, trivial⟩ hpre rfl (by rw [List.length_map]; exact hcnt) hl.1 hstk hw8 hd ⟨e9, e10⟩
/-- System.arraycopy over two rows of ints -/
def mC (M : AM) (k0 k1 sp dp len : Nat) : AM := fun k j => if k = k1 ∧ dp ≤ j ∧ j < dp + len then M k0 (sp + (j - dp)) else M k j
set_option maxHeartbeats 4000000 in
theorem Wa_acopy {k0 k1 l0 l1 idx : Nat} {sp dp len : Int} (h0 : KD[k0]? = some (.inr (.inl l0))) (h1 : KD[k1]? = some (.inr (.inl l1))) (w1 : Cond.methodLink n.1.cls idx arraycopyName ∈ WT) (w2 : Cond.native arraycopyName ∈ WT) (w3 : Cond.static arraycopyName ∈ WT) (w4 : Cond.initialized "java/lang/System" ∈ WT)
    (hsp : 0 ≤ sp) (hdp : 0 ≤ dp) (hln : 0 ≤ len) (hs : sp + len ≤ l0) (hd0 : dp + len ≤ l1) (hdd : 1 ≤ d) (hst : rsum st ≤ 8) (hd : decode n.2.1 pc = .ok (.invokestatic idx, 3))
    (kk : Wa g n d (pc + 3) ls st (mC M k0 k1 sp.toNat dp.toNat len.toNat) Q) : Wa g n d pc ls (vI len :: vI dp :: vR k1 :: vI sp :: vR k0 :: st) M Q := by
  intro p e R s m args below meth c H locs cells slots la QW C0 hR hP hS hl hF
  have C1 := C0
  obtain ⟨e1, e2, e3, e4, e5, e6, e7, e8, e9, e10, hSF⟩ := C0
  have hD : va_D (gA g) (wl g M) := va_D_wl hSF.2.2.2.2.2.2.1 hSF.2.2.2.2.2.2.2.1
  have b0 := KD_len_lt h0
  have b1 := KD_len_lt h1
  have r1 : rg sp := ⟨by omega, by omega⟩
  have r2 : rg dp := ⟨by omega, by omega⟩
  have r3 : rg len := ⟨by omega, by omega⟩
  have c1 : (Int32.ofInt sp).toNatClampNeg = sp.toNat := Int32.toNatClampNeg_ofInt_of_le r1.1 r1.2
  have c2 : (Int32.ofInt dp).toNatClampNeg = dp.toNat := Int32.toNatClampNeg_ofInt_of_le r2.1 r2.2
  have c3 : (Int32.ofInt len).toNatClampNeg = len.toNat := Int32.toNatClampNeg_ofInt_of_le r3.1 r3.2
  have n1 : ¬ Int32.ofInt sp < 0 := fun h => absurd ((rg_lt r1 rg_0).mp h) (by omega)
  have n2 : ¬ Int32.ofInt dp < 0 := fun h => absurd ((rg_lt r2 rg_0).mp h) (by omega)
  have n3 : ¬ Int32.ofInt len < 0 := fun h => absurd ((rg_lt r3 rg_0).mp h) (by omega)
  have hnw : nativeFrameWords "java/lang/System" "arraycopy" 5 + 11 ≤ 40 := by decide +kernel
  refine va_copyi (D := gD g) (ty := .int) e1 e2 (e3.trans hl.1.symm) e4 (hSF.1 _ w1 _) (hSF.1 _ w2 _) (hSF.1 _ w3 _) (hSF.1 _ w4 _) hSF.2.1 hP hD hS k0 k1 0 0 (wl_arr h0) (wl_arr h1) rfl rfl rfl n1 n2 n3 (by rw [c1, c3]; omega) (by rw [c2, c3]; omega) (fun i _ => rfl) (by omega) (by rw [rsum_rv]; omega) hd (fun H1 locs1 hP1 _ hS1 => ?_)
  have hE : (wl g M).set k1 (gad g k1, .inl (gcI g, l1, .inl (va_cpy (fun j => Int32.ofInt (M k0 j)) (fun j => Int32.ofInt (M k1 j)) (Int32.ofInt sp).toNatClampNeg (Int32.ofInt dp).toNatClampNeg (Int32.ofInt len).toNatClampNeg))) = wl g (mC M k0 k1 sp.toNat dp.toNat len.toNat) := by
    refine wl_set (KD_lt h1) (fun k' h => ?_) ?_
    · funext j
      simp [mC, h]
    · simp only [cel, h1, c1, c2, c3]
      congr 4
      funext j
      by_cases q : dp.toNat ≤ j ∧ j < dp.toNat + len.toNat
      · rw [pk_cpy_in q.1 q.2]
        simp only [mC, true_and, if_pos q]
      · rw [pk_cpy_out (by omega)]
        simp only [mC, true_and, if_neg q]
  rw [hE] at hP1
  refine kk p e R s m args below meth c H1 locs1 cells slots la QW C1 (fun k j hn => ?_) hP1 hS1 hl hF
  unfold mC
  split
  · exact hR _ _ (noHashA h0)
  · exact hR _ _ hn
end AMEM
end
section
abbrev QI (Q : Int → AM → Prop) : Option AV → AM → Prop := fun r M' => ∃ z, r = some (vI z) ∧ rg z ∧ Q z M'
abbrev QV (Q : AM → Prop) : Option AV → AM → Prop := fun r M' => r = none ∧ Q M'
abbrev QL (Q : Int → AM → Prop) : Option AV → AM → Prop := fun r M' => ∃ z, r = some (vL z) ∧ Q z M'
abbrev QF (Q : UInt32 → AM → Prop) : Option AV → AM → Prop := fun r M' => ∃ z, r = some (vF z) ∧ Q z M'
def MetI (g : AG) (n : MI) (d : Nat) (as : List AV) (M : AM) (Q : Int → AM → Prop) : Prop := MetA g n d as M (QI Q)
def MetV (g : AG) (n : MI) (d : Nat) (as : List AV) (M : AM) (Q : AM → Prop) : Prop := MetA g n d as M (QV Q)
def MetL (g : AG) (n : MI) (d : Nat) (as : List AV) (M : AM) (Q : Int → AM → Prop) : Prop := MetA g n d as M (QL Q)
def MetF (g : AG) (n : MI) (d : Nat) (as : List AV) (M : AM) (Q : UInt32 → AM → Prop) : Prop := MetA g n d as M (QF Q)
theorem MetI.imp {g : AG} {n : MI} {d : Nat} {as : List AV} {M : AM} {Q Q' : Int → AM → Prop} (h : MetI g n d as M Q) (k : ∀ z M', rg z → Q z M' → Q' z M') : MetI g n d as M Q' := MetA.mono h (fun r M' ⟨z, e, r1, q⟩ => ⟨z, e, r1, k z M' r1 q⟩)
theorem MetV.imp {g : AG} {n : MI} {d : Nat} {as : List AV} {M : AM} {Q Q' : AM → Prop} (h : MetV g n d as M Q) (k : ∀ M', Q M' → Q' M') : MetV g n d as M Q' := MetA.mono h (fun r M' ⟨e, q⟩ => ⟨e, k M' q⟩)
theorem MetL.imp {g : AG} {n : MI} {d : Nat} {as : List AV} {M : AM} {Q Q' : Int → AM → Prop} (h : MetL g n d as M Q) (k : ∀ z M', Q z M' → Q' z M') : MetL g n d as M Q' := MetA.mono h (fun r M' ⟨z, e, q⟩ => ⟨z, e, k z M' q⟩)
theorem MetF.imp {g : AG} {n : MI} {d : Nat} {as : List AV} {M : AM} {Q Q' : UInt32 → AM → Prop} (h : MetF g n d as M Q) (k : ∀ z M', Q z M' → Q' z M') : MetF g n d as M Q' := MetA.mono h (fun r M' ⟨z, e, q⟩ => ⟨z, e, k z M' q⟩)
def mX0_init : MI := (yX0_init, cX0_init, 1, none)
def mX0_most : MI := (yX0_most, cX0_most, 9, some .int)
def mX1_init : MI := (yX1_init, cX1_init, 1, none)
def mX1_commonLetters : MI := (yX1_commonLetters, cX1_commonLetters, 4, some .int)
def mX1_fraction : MI := (yX1_fraction, cX1_fraction, 4, some .float)
def mX2_init : MI := (yX2_init, cX2_init, 1, none)
def mX2_compare : MI := (yX2_compare, cX2_compare, 2, none)
def mX2_kept : MI := (yX2_kept, cX2_kept, 3, some .int)
def mX2_notKept : MI := (yX2_notKept, cX2_notKept, 1, some .int)
def mX2_shortest : MI := (yX2_shortest, cX2_shortest, 2, some .int)
def mX2_keep : MI := (yX2_keep, cX2_keep, 3, none)
def mX2_same : MI := (yX2_same, cX2_same, 3, some .boolean)
def mX2_matchParts : MI := (yX2_matchParts, cX2_matchParts, 10, none)
def mX2_findAnchors : MI := (yX2_findAnchors, cX2_findAnchors, 8, none)
def mX2_onlyPlaceOf : MI := (yX2_onlyPlaceOf, cX2_onlyPlaceOf, 7, some .int)
def mX2_keepLongestChain : MI := (yX2_keepLongestChain, cX2_keepLongestChain, 7, some .boolean)
def mX2_measureChains : MI := (yX2_measureChains, cX2_measureChains, 7, some .int)
def mX2_matchBetweenAnchors : MI := (yX2_matchBetweenAnchors, cX2_matchBetweenAnchors, 10, none)
def mX2_keepMost : MI := (yX2_keepMost, cX2_keepMost, 7, none)
def mX2_slideGaps : MI := (yX2_slideGaps, cX2_slideGaps, 3, none)
def mX2_widenGap : MI := (yX2_widenGap, cX2_widenGap, 2, none)
def mX2_slideGap : MI := (yX2_slideGap, cX2_slideGap, 5, none)
def mX2_maySlide : MI := (yX2_maySlide, cX2_maySlide, 3, some .boolean)
def mX2_slideOnce : MI := (yX2_slideOnce, cX2_slideOnce, 3, none)
def mX3_init : MI := (yX3_init, cX3_init, 1, none)
def mX3_append : MI := (yX3_append, cX3_append, 2, some .boolean)
def mX3_firstFault : MI := (yX3_firstFault, cX3_firstFault, 2, some .int)
def mX3_isText : MI := (yX3_isText, cX3_isText, 1, some .boolean)
def mX3_readInto : MI := (yX3_readInto, cX3_readInto, 5, none)
def mX4_init : MI := (yX4_init, cX4_init, 1, none)
def mX4_clear : MI := (yX4_clear, cX4_clear, 2, none)
def mX4_append : MI := (yX4_append, cX4_append, 3, some .int)
def mX4_total : MI := (yX4_total, cX4_total, 3, some .int)
def mX5_init : MI := (yX5_init, cX5_init, 1, none)
def mX5_begin : MI := (yX5_begin, cX5_begin, 1, none)
def mX5_takes : MI := (yX5_takes, cX5_takes, 2, some .boolean)
def mX5_takesLetter : MI := (yX5_takesLetter, cX5_takesLetter, 1, some .boolean)
def mX5_takesComma : MI := (yX5_takesComma, cX5_takesComma, 1, some .boolean)
def mX5_takesSemicolon : MI := (yX5_takesSemicolon, cX5_takesSemicolon, 1, some .boolean)
def mX5_mayEnd : MI := (yX5_mayEnd, cX5_mayEnd, 1, some .boolean)
def mX5_sideMayEnd : MI := (yX5_sideMayEnd, cX5_sideMayEnd, 1, some .boolean)
def mX6_init : MI := (yX6_init, cX6_init, 1, none)
def mX6_has : MI := (yX6_has, cX6_has, 2, some .boolean)
def mX6_howManyOf : MI := (yX6_howManyOf, cX6_howManyOf, 4, some .int)
def mX6_build : MI := (yX6_build, cX6_build, 9, none)
def mX6_nextKept : MI := (yX6_nextKept, cX6_nextKept, 5, some .int)
def mX6_findChanged : MI := (yX6_findChanged, cX6_findChanged, 11, none)
def mX6_addDropped : MI := (yX6_addDropped, cX6_addDropped, 4, none)
def mX6_addAdded : MI := (yX6_addAdded, cX6_addAdded, 8, none)
def mX6_addStep : MI := (yX6_addStep, cX6_addStep, 6, none)
def mX7_init : MI := (yX7_init, cX7_init, 1, none)
def mX7_has : MI := (yX7_has, cX7_has, 3, some .boolean)
def mX7_total : MI := (yX7_total, cX7_total, 1, some .int)
def mX7_clear : MI := (yX7_clear, cX7_clear, 1, none)
def mX7_copyFrom : MI := (yX7_copyFrom, cX7_copyFrom, 3, none)
def mX7_appendLine : MI := (yX7_appendLine, cX7_appendLine, 3, none)
def mX7_insert : MI := (yX7_insert, cX7_insert, 6, none)
def mX7_remove : MI := (yX7_remove, cX7_remove, 5, none)
def mX7_exchangeLines : MI := (yX7_exchangeLines, cX7_exchangeLines, 5, none)
def mX7_exchangeSides : MI := (yX7_exchangeSides, cX7_exchangeSides, 3, none)
def mX8_init : MI := (yX8_init, cX8_init, 1, none)
def mX8_letter : MI := (yX8_letter, cX8_letter, 2, some .int)
def mX8_blank : MI := (yX8_blank, cX8_blank, 2, some .int)
def mX8_fault : MI := (yX8_fault, cX8_fault, 1, some .int)
def mX8_text : MI := (yX8_text, cX8_text, 1, some .int)
def mX8_line : MI := (yX8_line, cX8_line, 6, some .int)
def mX8_step : MI := (yX8_step, cX8_step, 3, some .int)
def mX8_letters : MI := (yX8_letters, cX8_letters, 6, some .int)
def mX8_like : MI := (yX8_like, cX8_like, 3, some .int)
def mX8_rack : MI := (yX8_rack, cX8_rack, 3, some .int)
def mX8_racked : MI := (yX8_racked, cX8_racked, 3, some .int)
def mX8_put : MI := (yX8_put, cX8_put, 4, some .int)
def mX8_take : MI := (yX8_take, cX8_take, 3, some .int)
def mX8_swap : MI := (yX8_swap, cX8_swap, 4, some .int)
def mX8_turn : MI := (yX8_turn, cX8_turn, 1, some .int)
def mX8_cost : MI := (yX8_cost, cX8_cost, 2, some .int)
def mX8_best : MI := (yX8_best, cX8_best, 6, some .int)
def mX8_all : MI := (yX8_all, cX8_all, 2, some .long)
def mX8_drawn : MI := (yX8_drawn, cX8_drawn, 8, some .int)
def mX8_image : MI := (yX8_image, cX8_image, 1, some .int)
def mX8_restore : MI := (yX8_restore, cX8_restore, 1, some .int)
def mX8_count : MI := (yX8_count, cX8_count, 2, some .int)
def mX8_digest : MI := (yX8_digest, cX8_digest, 5, some .long)
def mX8_digestOfLines : MI := (yX8_digestOfLines, cX8_digestOfLines, 8, some .long)
def mX8_digestOfScript : MI := (yX8_digestOfScript, cX8_digestOfScript, 7, some .long)
def mX8_compareAnew : MI := (yX8_compareAnew, cX8_compareAnew, 1, some .int)
def mX8_costOfPutting : MI := (yX8_costOfPutting, cX8_costOfPutting, 3, some .int)
def mX8_drawTrial : MI := (yX8_drawTrial, cX8_drawTrial, 5, some .int)
def mX8_isSide : MI := (yX8_isSide, cX8_isSide, 1, some .boolean)
def mX8_isLetter : MI := (yX8_isLetter, cX8_isLetter, 1, some .boolean)
def mX8_isLine : MI := (yX8_isLine, cX8_isLine, 3, some .boolean)
def mX8_lettersIn : MI := (yX8_lettersIn, cX8_lettersIn, 1, some .int)
def mX8_codeAt : MI := (yX8_codeAt, cX8_codeAt, 3, some .int)
def mX8_isOfKind : MI := (yX8_isOfKind, cX8_isOfKind, 4, some .boolean)
def mX8_singleBits : MI := (yX8_singleBits, cX8_singleBits, 4, some .int)
def mX8_doubleBits : MI := (yX8_doubleBits, cX8_doubleBits, 7, some .long)
def mX9_init : MI := (yX9_init, cX9_init, 2, none)
def mX9_in : MI := (yX9_in, cX9_in, 6, some .boolean)
def mX9_copy : MI := (yX9_copy, cX9_copy, 3, none)
def mX9_letter : MI := (yX9_letter, cX9_letter, 2, some .int)
def mX9_blank : MI := (yX9_blank, cX9_blank, 2, some .int)
def mX9_isGood : MI := (yX9_isGood, cX9_isGood, 3, some .boolean)
def mX9_faultOf : MI := (yX9_faultOf, cX9_faultOf, 3, some .int)
def mX9_fault : MI := (yX9_fault, cX9_fault, 1, some .int)
def mX9_text : MI := (yX9_text, cX9_text, 1, some .int)
def mX9_isSide : MI := (yX9_isSide, cX9_isSide, 1, some .boolean)
def mX9_isLine : MI := (yX9_isLine, cX9_isLine, 3, some .boolean)
def mX9_isSame : MI := (yX9_isSame, cX9_isSame, 3, some .boolean)
def mX9_addPart : MI := (yX9_addPart, cX9_addPart, 5, none)
def mX9_keep : MI := (yX9_keep, cX9_keep, 3, none)
def mX9_timesIn : MI := (yX9_timesIn, cX9_timesIn, 6, some .int)
def mX9_layAnchors : MI := (yX9_layAnchors, cX9_layAnchors, 8, some .int)
def mX9_matchAnchors : MI := (yX9_matchAnchors, cX9_matchAnchors, 11, none)
def mX9_layCan : MI := (yX9_layCan, cX9_layCan, 10, none)
def mX9_matchRows : MI := (yX9_matchRows, cX9_matchRows, 7, none)
def mX9_matchPart : MI := (yX9_matchPart, cX9_matchPart, 10, none)
def mX9_matchAll : MI := (yX9_matchAll, cX9_matchAll, 2, none)
def mX9_countGap : MI := (yX9_countGap, cX9_countGap, 4, some .int)
def mX9_countBack : MI := (yX9_countBack, cX9_countBack, 4, some .int)
def mX9_isSliding : MI := (yX9_isSliding, cX9_isSliding, 5, some .boolean)
def mX9_slide : MI := (yX9_slide, cX9_slide, 6, none)
def mX9_slideGap : MI := (yX9_slideGap, cX9_slideGap, 7, some .int)
def mX9_slideAll : MI := (yX9_slideAll, cX9_slideAll, 7, none)
def mX9_bitsOf : MI := (yX9_bitsOf, cX9_bitsOf, 13, some .long)
def mX9_lettersOf : MI := (yX9_lettersOf, cX9_lettersOf, 1, some .int)
def mX9_letterOf : MI := (yX9_letterOf, cX9_letterOf, 4, some .int)
def mX9_alike : MI := (yX9_alike, cX9_alike, 10, some .int)
def mX9_likeBits : MI := (yX9_likeBits, cX9_likeBits, 3, some .int)
def mX9_like : MI := (yX9_like, cX9_like, 3, some .int)
def mX9_addStep : MI := (yX9_addStep, cX9_addStep, 6, none)
def mX9_changeBy : MI := (yX9_changeBy, cX9_changeBy, 5, some .int)
def mX9_layGap : MI := (yX9_layGap, cX9_layGap, 8, none)
def mX9_layScript : MI := (yX9_layScript, cX9_layScript, 5, none)
def mX9_layKept : MI := (yX9_layKept, cX9_layKept, 1, none)
def mX9_isStep : MI := (yX9_isStep, cX9_isStep, 2, some .boolean)
def mX9_step : MI := (yX9_step, cX9_step, 3, some .int)
def mX9_lettersBy : MI := (yX9_lettersBy, cX9_lettersBy, 6, some .int)
def mX9_letters : MI := (yX9_letters, cX9_letters, 3, some .int)
def mX9_tellLine : MI := (yX9_tellLine, cX9_tellLine, 5, some .int)
def mX9_line : MI := (yX9_line, cX9_line, 4, some .int)
def mX9_rackedOf : MI := (yX9_rackedOf, cX9_rackedOf, 3, some .int)
def mX9_isOf : MI := (yX9_isOf, cX9_isOf, 2, some .boolean)
def mX9_rack : MI := (yX9_rack, cX9_rack, 4, some .int)
def mX9_racked : MI := (yX9_racked, cX9_racked, 3, some .int)
def mX9_isLetters : MI := (yX9_isLetters, cX9_isLetters, 3, some .boolean)
def mX9_insert : MI := (yX9_insert, cX9_insert, 5, none)
def mX9_remove : MI := (yX9_remove, cX9_remove, 4, none)
def mX9_put : MI := (yX9_put, cX9_put, 4, some .int)
def mX9_take : MI := (yX9_take, cX9_take, 3, some .int)
def mX9_swap : MI := (yX9_swap, cX9_swap, 5, some .int)
def mX9_turn : MI := (yX9_turn, cX9_turn, 3, some .int)
def mX9_keptMany : MI := (yX9_keptMany, cX9_keptMany, 3, some .int)
def mX9_costNow : MI := (yX9_costNow, cX9_costNow, 1, some .int)
def mX9_costOf : MI := (yX9_costOf, cX9_costOf, 2, some .int)
def mX9_cost : MI := (yX9_cost, cX9_cost, 2, some .int)
def mX9_bestOf : MI := (yX9_bestOf, cX9_bestOf, 6, some .int)
def mX9_best : MI := (yX9_best, cX9_best, 2, some .int)
def mX9_allOf : MI := (yX9_allOf, cX9_allOf, 2, some .long)
def mX9_all : MI := (yX9_all, cX9_all, 1, some .long)
def mX9_draw : MI := (yX9_draw, cX9_draw, 2, some .int)
def mX9_drawn : MI := (yX9_drawn, cX9_drawn, 8, some .int)
def mX9_image : MI := (yX9_image, cX9_image, 1, some .int)
def mX9_restore : MI := (yX9_restore, cX9_restore, 1, some .int)
def mX9_stepsOf : MI := (yX9_stepsOf, cX9_stepsOf, 4, some .int)
def mX9_rackedAll : MI := (yX9_rackedAll, cX9_rackedAll, 3, some .int)
def mX9_countOf : MI := (yX9_countOf, cX9_countOf, 2, some .int)
def mX9_count : MI := (yX9_count, cX9_count, 2, some .int)
def mX9_say : MI := (yX9_say, cX9_say, 3, none)
def mX9_sayText : MI := (yX9_sayText, cX9_sayText, 2, none)
def mX9_digest : MI := (yX9_digest, cX9_digest, 4, some .long)
def mL_law : MI := (yL_law, cL_law, 4, some .boolean)
theorem lay_X0_0 : u_lay RX0 TX0 0 ∈ WT := WT_mem (List.mem_append_right _ (List.mem_of_getElem? (i := 93) (by decide +kernel))) (by decide +kernel)
theorem inW_X0 : ∀ w ∈ wsX00, w ∈ WT := by
  intro w hw
  obtain ⟨k, hk, rfl⟩ := List.mem_map.mp hw
  have hk := List.mem_range.mp hk
  match k, hk with
  | 0, _ => exact lay_X0_0
  | k + 1, h => exact absurd h (by omega)
theorem cf_X0 : CF 0 RX0 TX0 1 tyX0 := ⟨rfl, inW_X0, tyX0_ok, nmX0⟩
theorem lay_X1_0 : u_lay RX1 TX1 0 ∈ WT := WT_mem (List.mem_append_right _ (List.mem_of_getElem? (i := 143) (by decide +kernel))) (by decide +kernel)
theorem lay_X1_1 : u_lay RX1 TX1 1 ∈ WT := WT_mem (List.mem_append_right _ (List.mem_of_getElem? (i := 145) (by decide +kernel))) (by decide +kernel)
theorem lay_X1_2 : u_lay RX1 TX1 2 ∈ WT := WT_mem (List.mem_append_right _ (List.mem_of_getElem? (i := 147) (by decide +kernel))) (by decide +kernel)
theorem inW_X1 : ∀ w ∈ wsX10, w ∈ WT := by
  intro w hw
  obtain ⟨k, hk, rfl⟩ := List.mem_map.mp hw
  have hk := List.mem_range.mp hk
  match k, hk with
  | 0, _ => exact lay_X1_0
  | 1, _ => exact lay_X1_1
  | 2, _ => exact lay_X1_2
  | k + 3, h => exact absurd h (by omega)
theorem cf_X1 : CF 1 RX1 TX1 3 tyX1 := ⟨rfl, inW_X1, tyX1_ok, nmX1⟩
theorem lay_X2_0 : u_lay RX2 TX2 0 ∈ WT := WT_mem (List.mem_append_right _ (List.mem_of_getElem? (i := 111) (by decide +kernel))) (by decide +kernel)
theorem lay_X2_1 : u_lay RX2 TX2 1 ∈ WT := WT_mem (List.mem_append_right _ (List.mem_of_getElem? (i := 113) (by decide +kernel))) (by decide +kernel)
theorem lay_X2_2 : u_lay RX2 TX2 2 ∈ WT := WT_mem (List.mem_append_right _ (List.mem_of_getElem? (i := 115) (by decide +kernel))) (by decide +kernel)
theorem lay_X2_3 : u_lay RX2 TX2 3 ∈ WT := WT_mem (List.mem_append_right _ (List.mem_of_getElem? (i := 117) (by decide +kernel))) (by decide +kernel)
theorem lay_X2_4 : u_lay RX2 TX2 4 ∈ WT := WT_mem (List.mem_append_right _ (List.mem_of_getElem? (i := 119) (by decide +kernel))) (by decide +kernel)
theorem lay_X2_5 : u_lay RX2 TX2 5 ∈ WT := WT_mem (List.mem_append_right _ (List.mem_of_getElem? (i := 121) (by decide +kernel))) (by decide +kernel)
theorem lay_X2_6 : u_lay RX2 TX2 6 ∈ WT := WT_mem (List.mem_append_right _ (List.mem_of_getElem? (i := 123) (by decide +kernel))) (by decide +kernel)
theorem lay_X2_7 : u_lay RX2 TX2 7 ∈ WT := WT_mem (List.mem_append_right _ (List.mem_of_getElem? (i := 125) (by decide +kernel))) (by decide +kernel)
theorem lay_X2_8 : u_lay RX2 TX2 8 ∈ WT := WT_mem (List.mem_append_right _ (List.mem_of_getElem? (i := 127) (by decide +kernel))) (by decide +kernel)
theorem inW_X2 : ∀ w ∈ wsX20, w ∈ WT := by
  intro w hw
  obtain ⟨k, hk, rfl⟩ := List.mem_map.mp hw
  have hk := List.mem_range.mp hk
  match k, hk with
  | 0, _ => exact lay_X2_0
  | 1, _ => exact lay_X2_1
  | 2, _ => exact lay_X2_2
  | 3, _ => exact lay_X2_3
  | 4, _ => exact lay_X2_4
  | 5, _ => exact lay_X2_5
  | 6, _ => exact lay_X2_6
  | 7, _ => exact lay_X2_7
  | 8, _ => exact lay_X2_8
  | k + 9, h => exact absurd h (by omega)
theorem cf_X2 : CF 2 RX2 TX2 9 tyX2 := ⟨rfl, inW_X2, tyX2_ok, nmX2⟩
theorem lay_X3_0 : u_lay RX3 TX3 0 ∈ WT := WT_mem (List.mem_append_right _ (List.mem_of_getElem? (i := 49) (by decide +kernel))) (by decide +kernel)
theorem lay_X3_1 : u_lay RX3 TX3 1 ∈ WT := WT_mem (List.mem_append_right _ (List.mem_of_getElem? (i := 51) (by decide +kernel))) (by decide +kernel)
theorem lay_X3_2 : u_lay RX3 TX3 2 ∈ WT := WT_mem (List.mem_append_right _ (List.mem_of_getElem? (i := 53) (by decide +kernel))) (by decide +kernel)
theorem inW_X3 : ∀ w ∈ wsX30, w ∈ WT := by
  intro w hw
  obtain ⟨k, hk, rfl⟩ := List.mem_map.mp hw
  have hk := List.mem_range.mp hk
  match k, hk with
  | 0, _ => exact lay_X3_0
  | 1, _ => exact lay_X3_1
  | 2, _ => exact lay_X3_2
  | k + 3, h => exact absurd h (by omega)
theorem cf_X3 : CF 3 RX3 TX3 3 tyX3 := ⟨rfl, inW_X3, tyX3_ok, nmX3⟩
theorem lay_X4_0 : u_lay RX4 TX4 0 ∈ WT := WT_mem (List.mem_append_right _ (List.mem_of_getElem? (i := 201) (by decide +kernel))) (by decide +kernel)
theorem lay_X4_1 : u_lay RX4 TX4 1 ∈ WT := WT_mem (List.mem_append_right _ (List.mem_of_getElem? (i := 203) (by decide +kernel))) (by decide +kernel)
theorem inW_X4 : ∀ w ∈ wsX40, w ∈ WT := by
  intro w hw
  obtain ⟨k, hk, rfl⟩ := List.mem_map.mp hw
  have hk := List.mem_range.mp hk
  match k, hk with
  | 0, _ => exact lay_X4_0
  | 1, _ => exact lay_X4_1
  | k + 2, h => exact absurd h (by omega)
theorem cf_X4 : CF 4 RX4 TX4 2 tyX4 := ⟨rfl, inW_X4, tyX4_ok, nmX4⟩
theorem lay_X5_0 : u_lay RX5 TX5 0 ∈ WT := WT_mem (List.mem_append_right _ (List.mem_of_getElem? (i := 36) (by decide +kernel))) (by decide +kernel)
theorem lay_X5_1 : u_lay RX5 TX5 1 ∈ WT := WT_mem (List.mem_append_right _ (List.mem_of_getElem? (i := 38) (by decide +kernel))) (by decide +kernel)
theorem lay_X5_2 : u_lay RX5 TX5 2 ∈ WT := WT_mem (List.mem_append_right _ (List.mem_of_getElem? (i := 40) (by decide +kernel))) (by decide +kernel)
theorem inW_X5 : ∀ w ∈ wsX50, w ∈ WT := by
  intro w hw
  obtain ⟨k, hk, rfl⟩ := List.mem_map.mp hw
  have hk := List.mem_range.mp hk
  match k, hk with
  | 0, _ => exact lay_X5_0
  | 1, _ => exact lay_X5_1
  | 2, _ => exact lay_X5_2
  | k + 3, h => exact absurd h (by omega)
theorem cf_X5 : CF 5 RX5 TX5 3 tyX5 := ⟨rfl, inW_X5, tyX5_ok, nmX5⟩
theorem lay_X6_0 : u_lay RX6 TX6 0 ∈ WT := WT_mem (List.mem_append_right _ (List.mem_of_getElem? (i := 173) (by decide +kernel))) (by decide +kernel)
theorem lay_X6_1 : u_lay RX6 TX6 1 ∈ WT := WT_mem (List.mem_append_right _ (List.mem_of_getElem? (i := 175) (by decide +kernel))) (by decide +kernel)
theorem lay_X6_2 : u_lay RX6 TX6 2 ∈ WT := WT_mem (List.mem_append_right _ (List.mem_of_getElem? (i := 177) (by decide +kernel))) (by decide +kernel)
theorem lay_X6_3 : u_lay RX6 TX6 3 ∈ WT := WT_mem (List.mem_append_right _ (List.mem_of_getElem? (i := 179) (by decide +kernel))) (by decide +kernel)
theorem lay_X6_4 : u_lay RX6 TX6 4 ∈ WT := WT_mem (List.mem_append_right _ (List.mem_of_getElem? (i := 181) (by decide +kernel))) (by decide +kernel)
theorem lay_X6_5 : u_lay RX6 TX6 5 ∈ WT := WT_mem (List.mem_append_right _ (List.mem_of_getElem? (i := 183) (by decide +kernel))) (by decide +kernel)
theorem lay_X6_6 : u_lay RX6 TX6 6 ∈ WT := WT_mem (List.mem_append_right _ (List.mem_of_getElem? (i := 185) (by decide +kernel))) (by decide +kernel)
theorem lay_X6_7 : u_lay RX6 TX6 7 ∈ WT := WT_mem (List.mem_append_right _ (List.mem_of_getElem? (i := 187) (by decide +kernel))) (by decide +kernel)
theorem inW_X6 : ∀ w ∈ wsX60, w ∈ WT := by
  intro w hw
  obtain ⟨k, hk, rfl⟩ := List.mem_map.mp hw
  have hk := List.mem_range.mp hk
  match k, hk with
  | 0, _ => exact lay_X6_0
  | 1, _ => exact lay_X6_1
  | 2, _ => exact lay_X6_2
  | 3, _ => exact lay_X6_3
  | 4, _ => exact lay_X6_4
  | 5, _ => exact lay_X6_5
  | 6, _ => exact lay_X6_6
  | 7, _ => exact lay_X6_7
  | k + 8, h => exact absurd h (by omega)
theorem cf_X6 : CF 6 RX6 TX6 8 tyX6 := ⟨rfl, inW_X6, tyX6_ok, nmX6⟩
theorem lay_X7_0 : u_lay RX7 TX7 0 ∈ WT := WT_mem (List.mem_append_right _ (List.mem_of_getElem? (i := 78) (by decide +kernel))) (by decide +kernel)
theorem lay_X7_1 : u_lay RX7 TX7 1 ∈ WT := WT_mem (List.mem_append_right _ (List.mem_of_getElem? (i := 80) (by decide +kernel))) (by decide +kernel)
theorem inW_X7 : ∀ w ∈ wsX70, w ∈ WT := by
  intro w hw
  obtain ⟨k, hk, rfl⟩ := List.mem_map.mp hw
  have hk := List.mem_range.mp hk
  match k, hk with
  | 0, _ => exact lay_X7_0
  | 1, _ => exact lay_X7_1
  | k + 2, h => exact absurd h (by omega)
theorem cf_X7 : CF 7 RX7 TX7 2 tyX7 := ⟨rfl, inW_X7, tyX7_ok, nmX7⟩
theorem lay_X8_0 : u_lay RX8 TX8 0 ∈ WT := WT_mem (List.mem_append_right _ (List.mem_of_getElem? (i := 217) (by decide +kernel))) (by decide +kernel)
theorem lay_X8_1 : u_lay RX8 TX8 1 ∈ WT := WT_mem (List.mem_append_right _ (List.mem_of_getElem? (i := 219) (by decide +kernel))) (by decide +kernel)
theorem lay_X8_2 : u_lay RX8 TX8 2 ∈ WT := WT_mem (List.mem_append_right _ (List.mem_of_getElem? (i := 221) (by decide +kernel))) (by decide +kernel)
theorem lay_X8_3 : u_lay RX8 TX8 3 ∈ WT := WT_mem (List.mem_append_right _ (List.mem_of_getElem? (i := 223) (by decide +kernel))) (by decide +kernel)
theorem lay_X8_4 : u_lay RX8 TX8 4 ∈ WT := WT_mem (List.mem_append_right _ (List.mem_of_getElem? (i := 225) (by decide +kernel))) (by decide +kernel)
theorem lay_X8_5 : u_lay RX8 TX8 5 ∈ WT := WT_mem (List.mem_append_right _ (List.mem_of_getElem? (i := 227) (by decide +kernel))) (by decide +kernel)
theorem lay_X8_6 : u_lay RX8 TX8 6 ∈ WT := WT_mem (List.mem_append_right _ (List.mem_of_getElem? (i := 229) (by decide +kernel))) (by decide +kernel)
theorem lay_X8_7 : u_lay RX8 TX8 7 ∈ WT := WT_mem (List.mem_append_right _ (List.mem_of_getElem? (i := 231) (by decide +kernel))) (by decide +kernel)
theorem lay_X8_8 : u_lay RX8 TX8 8 ∈ WT := WT_mem (List.mem_append_right _ (List.mem_of_getElem? (i := 233) (by decide +kernel))) (by decide +kernel)
theorem lay_X8_9 : u_lay RX8 TX8 9 ∈ WT := WT_mem (List.mem_append_right _ (List.mem_of_getElem? (i := 235) (by decide +kernel))) (by decide +kernel)
theorem lay_X8_10 : u_lay RX8 TX8 10 ∈ WT := WT_mem (List.mem_append_right _ (List.mem_of_getElem? (i := 237) (by decide +kernel))) (by decide +kernel)
theorem inW_X8 : ∀ w ∈ wsX80, w ∈ WT := by
  intro w hw
  obtain ⟨k, hk, rfl⟩ := List.mem_map.mp hw
  have hk := List.mem_range.mp hk
  match k, hk with
  | 0, _ => exact lay_X8_0
  | 1, _ => exact lay_X8_1
  | 2, _ => exact lay_X8_2
  | 3, _ => exact lay_X8_3
  | 4, _ => exact lay_X8_4
  | 5, _ => exact lay_X8_5
  | 6, _ => exact lay_X8_6
  | 7, _ => exact lay_X8_7
  | 8, _ => exact lay_X8_8
  | 9, _ => exact lay_X8_9
  | 10, _ => exact lay_X8_10
  | k + 11, h => exact absurd h (by omega)
theorem cf_X8 : CF 8 RX8 TX8 11 tyX8 := ⟨rfl, inW_X8, tyX8_ok, nmX8⟩
theorem lay_X9_0 : u_lay RX9 TX9 0 ∈ WT := WT_mem (List.mem_append_right _ (List.mem_of_getElem? (i := 667) (by decide +kernel))) (by decide +kernel)
theorem lay_X9_1 : u_lay RX9 TX9 1 ∈ WT := WT_mem (List.mem_append_right _ (List.mem_of_getElem? (i := 669) (by decide +kernel))) (by decide +kernel)
theorem lay_X9_2 : u_lay RX9 TX9 2 ∈ WT := WT_mem (List.mem_append_right _ (List.mem_of_getElem? (i := 671) (by decide +kernel))) (by decide +kernel)
theorem lay_X9_3 : u_lay RX9 TX9 3 ∈ WT := WT_mem (List.mem_append_right _ (List.mem_of_getElem? (i := 673) (by decide +kernel))) (by decide +kernel)
theorem lay_X9_4 : u_lay RX9 TX9 4 ∈ WT := WT_mem (List.mem_append_right _ (List.mem_of_getElem? (i := 675) (by decide +kernel))) (by decide +kernel)
theorem lay_X9_5 : u_lay RX9 TX9 5 ∈ WT := WT_mem (List.mem_append_right _ (List.mem_of_getElem? (i := 677) (by decide +kernel))) (by decide +kernel)
theorem lay_X9_6 : u_lay RX9 TX9 6 ∈ WT := WT_mem (List.mem_append_right _ (List.mem_of_getElem? (i := 679) (by decide +kernel))) (by decide +kernel)
theorem lay_X9_7 : u_lay RX9 TX9 7 ∈ WT := WT_mem (List.mem_append_right _ (List.mem_of_getElem? (i := 681) (by decide +kernel))) (by decide +kernel)
theorem lay_X9_8 : u_lay RX9 TX9 8 ∈ WT := WT_mem (List.mem_append_right _ (List.mem_of_getElem? (i := 683) (by decide +kernel))) (by decide +kernel)
theorem lay_X9_9 : u_lay RX9 TX9 9 ∈ WT := WT_mem (List.mem_append_right _ (List.mem_of_getElem? (i := 685) (by decide +kernel))) (by decide +kernel)
theorem lay_X9_10 : u_lay RX9 TX9 10 ∈ WT := WT_mem (List.mem_append_right _ (List.mem_of_getElem? (i := 687) (by decide +kernel))) (by decide +kernel)
theorem lay_X9_11 : u_lay RX9 TX9 11 ∈ WT := WT_mem (List.mem_append_right _ (List.mem_of_getElem? (i := 689) (by decide +kernel))) (by decide +kernel)
theorem lay_X9_12 : u_lay RX9 TX9 12 ∈ WT := WT_mem (List.mem_append_right _ (List.mem_of_getElem? (i := 691) (by decide +kernel))) (by decide +kernel)
theorem lay_X9_13 : u_lay RX9 TX9 13 ∈ WT := WT_mem (List.mem_append_right _ (List.mem_of_getElem? (i := 693) (by decide +kernel))) (by decide +kernel)
theorem lay_X9_14 : u_lay RX9 TX9 14 ∈ WT := WT_mem (List.mem_append_right _ (List.mem_of_getElem? (i := 695) (by decide +kernel))) (by decide +kernel)
theorem lay_X9_15 : u_lay RX9 TX9 15 ∈ WT := WT_mem (List.mem_append_right _ (List.mem_of_getElem? (i := 697) (by decide +kernel))) (by decide +kernel)
theorem lay_X9_16 : u_lay RX9 TX9 16 ∈ WT := WT_mem (List.mem_append_right _ (List.mem_of_getElem? (i := 699) (by decide +kernel))) (by decide +kernel)
theorem lay_X9_17 : u_lay RX9 TX9 17 ∈ WT := WT_mem (List.mem_append_right _ (List.mem_of_getElem? (i := 701) (by decide +kernel))) (by decide +kernel)
theorem lay_X9_18 : u_lay RX9 TX9 18 ∈ WT := WT_mem (List.mem_append_right _ (List.mem_of_getElem? (i := 703) (by decide +kernel))) (by decide +kernel)
theorem lay_X9_19 : u_lay RX9 TX9 19 ∈ WT := WT_mem (List.mem_append_right _ (List.mem_of_getElem? (i := 705) (by decide +kernel))) (by decide +kernel)
theorem lay_X9_20 : u_lay RX9 TX9 20 ∈ WT := WT_mem (List.mem_append_right _ (List.mem_of_getElem? (i := 707) (by decide +kernel))) (by decide +kernel)
theorem lay_X9_21 : u_lay RX9 TX9 21 ∈ WT := WT_mem (List.mem_append_right _ (List.mem_of_getElem? (i := 709) (by decide +kernel))) (by decide +kernel)
theorem lay_X9_22 : u_lay RX9 TX9 22 ∈ WT := WT_mem (List.mem_append_right _ (List.mem_of_getElem? (i := 711) (by decide +kernel))) (by decide +kernel)
theorem lay_X9_23 : u_lay RX9 TX9 23 ∈ WT := WT_mem (List.mem_append_right _ (List.mem_of_getElem? (i := 713) (by decide +kernel))) (by decide +kernel)
theorem lay_X9_24 : u_lay RX9 TX9 24 ∈ WT := WT_mem (List.mem_append_right _ (List.mem_of_getElem? (i := 715) (by decide +kernel))) (by decide +kernel)
theorem lay_X9_25 : u_lay RX9 TX9 25 ∈ WT := WT_mem (List.mem_append_right _ (List.mem_of_getElem? (i := 717) (by decide +kernel))) (by decide +kernel)
theorem lay_X9_26 : u_lay RX9 TX9 26 ∈ WT := WT_mem (List.mem_append_right _ (List.mem_of_getElem? (i := 719) (by decide +kernel))) (by decide +kernel)
theorem lay_X9_27 : u_lay RX9 TX9 27 ∈ WT := WT_mem (List.mem_append_right _ (List.mem_of_getElem? (i := 721) (by decide +kernel))) (by decide +kernel)
theorem lay_X9_28 : u_lay RX9 TX9 28 ∈ WT := WT_mem (List.mem_append_right _ (List.mem_of_getElem? (i := 723) (by decide +kernel))) (by decide +kernel)
theorem lay_X9_29 : u_lay RX9 TX9 29 ∈ WT := WT_mem (List.mem_append_right _ (List.mem_of_getElem? (i := 725) (by decide +kernel))) (by decide +kernel)
theorem lay_X9_30 : u_lay RX9 TX9 30 ∈ WT := WT_mem (List.mem_append_right _ (List.mem_of_getElem? (i := 727) (by decide +kernel))) (by decide +kernel)
theorem lay_X9_31 : u_lay RX9 TX9 31 ∈ WT := WT_mem (List.mem_append_right _ (List.mem_of_getElem? (i := 729) (by decide +kernel))) (by decide +kernel)
theorem lay_X9_32 : u_lay RX9 TX9 32 ∈ WT := WT_mem (List.mem_append_right _ (List.mem_of_getElem? (i := 731) (by decide +kernel))) (by decide +kernel)
theorem inW_X9 : ∀ w ∈ wsX90, w ∈ WT := by
  intro w hw
  obtain ⟨k, hk, rfl⟩ := List.mem_map.mp hw
  have hk := List.mem_range.mp hk
  match k, hk with
  | 0, _ => exact lay_X9_0
  | 1, _ => exact lay_X9_1
  | 2, _ => exact lay_X9_2
  | 3, _ => exact lay_X9_3
  | 4, _ => exact lay_X9_4
  | 5, _ => exact lay_X9_5
  | 6, _ => exact lay_X9_6
  | 7, _ => exact lay_X9_7
  | 8, _ => exact lay_X9_8
  | 9, _ => exact lay_X9_9
  | 10, _ => exact lay_X9_10
  | 11, _ => exact lay_X9_11
  | 12, _ => exact lay_X9_12
  | 13, _ => exact lay_X9_13
  | 14, _ => exact lay_X9_14
  | 15, _ => exact lay_X9_15
  | 16, _ => exact lay_X9_16
  | 17, _ => exact lay_X9_17
  | 18, _ => exact lay_X9_18
  | 19, _ => exact lay_X9_19
  | 20, _ => exact lay_X9_20
  | 21, _ => exact lay_X9_21
  | 22, _ => exact lay_X9_22
  | 23, _ => exact lay_X9_23
  | 24, _ => exact lay_X9_24
  | 25, _ => exact lay_X9_25
  | 26, _ => exact lay_X9_26
  | 27, _ => exact lay_X9_27
  | 28, _ => exact lay_X9_28
  | 29, _ => exact lay_X9_29
  | 30, _ => exact lay_X9_30
  | 31, _ => exact lay_X9_31
  | 32, _ => exact lay_X9_32
  | k + 33, h => exact absurd h (by omega)
theorem cf_X9 : CF 9 RX9 TX9 33 tyX9 := ⟨rfl, inW_X9, tyX9_ok, nmX9⟩
theorem lk_X5_9 : LK RX5 9 (TX5 0) := Or.inl (WT_mem (List.mem_append_right _ (List.mem_of_getElem? (i := 33) (by decide +kernel))) (by decide +kernel))
theorem lk_X5_15 : LK RX5 15 (TX5 1) := Or.inl (WT_mem (List.mem_append_right _ (List.mem_of_getElem? (i := 34) (by decide +kernel))) (by decide +kernel))
theorem lk_X5_18 : LK RX5 18 (TX5 2) := Or.inl (WT_mem (List.mem_append_right _ (List.mem_of_getElem? (i := 35) (by decide +kernel))) (by decide +kernel))
theorem lk_X3_9 : LK RX3 9 (TX3 0) := Or.inl (WT_mem (List.mem_append_right _ (List.mem_of_getElem? (i := 44) (by decide +kernel))) (by decide +kernel))
theorem lk_X8_235 : LK RX8 235 (TX3 0) := Or.inr ⟨"LineScript", List.mem_append_right _ (List.mem_of_getElem? (i := 45) (by decide +kernel))⟩
theorem lk_X3_18 : LK RX3 18 (TX3 1) := Or.inl (WT_mem (List.mem_append_right _ (List.mem_of_getElem? (i := 46) (by decide +kernel))) (by decide +kernel))
theorem lk_X3_22 : LK RX3 22 (TX3 2) := Or.inl (WT_mem (List.mem_append_right _ (List.mem_of_getElem? (i := 47) (by decide +kernel))) (by decide +kernel))
theorem lk_X8_73 : LK RX8 73 (TX3 2) := Or.inr ⟨"LineScript", List.mem_append_right _ (List.mem_of_getElem? (i := 48) (by decide +kernel))⟩
theorem lk_X7_11 : LK RX7 11 (TX7 0) := Or.inl (WT_mem (List.mem_append_right _ (List.mem_of_getElem? (i := 70) (by decide +kernel))) (by decide +kernel))
theorem lk_X2_67 : LK RX2 67 (TX7 0) := Or.inr ⟨"LineScript", List.mem_append_right _ (List.mem_of_getElem? (i := 71) (by decide +kernel))⟩
theorem lk_X8_98 : LK RX8 98 (TX7 0) := Or.inr ⟨"LineScript", List.mem_append_right _ (List.mem_of_getElem? (i := 72) (by decide +kernel))⟩
theorem lk_X6_78 : LK RX6 78 (TX7 0) := Or.inr ⟨"LineScript", List.mem_append_right _ (List.mem_of_getElem? (i := 73) (by decide +kernel))⟩
theorem lk_X7_16 : LK RX7 16 (TX7 1) := Or.inl (WT_mem (List.mem_append_right _ (List.mem_of_getElem? (i := 74) (by decide +kernel))) (by decide +kernel))
theorem lk_X2_50 : LK RX2 50 (TX7 1) := Or.inr ⟨"LineScript", List.mem_append_right _ (List.mem_of_getElem? (i := 75) (by decide +kernel))⟩
theorem lk_X6_61 : LK RX6 61 (TX7 1) := Or.inr ⟨"LineScript", List.mem_append_right _ (List.mem_of_getElem? (i := 76) (by decide +kernel))⟩
theorem lk_X8_158 : LK RX8 158 (TX7 1) := Or.inr ⟨"LineScript", List.mem_append_right _ (List.mem_of_getElem? (i := 77) (by decide +kernel))⟩
theorem lk_X0_11 : LK RX0 11 (TX0 0) := Or.inl (WT_mem (List.mem_append_right _ (List.mem_of_getElem? (i := 91) (by decide +kernel))) (by decide +kernel))
theorem lk_X2_108 : LK RX2 108 (TX0 0) := Or.inr ⟨"LineScript", List.mem_append_right _ (List.mem_of_getElem? (i := 92) (by decide +kernel))⟩
theorem lk_X2_12 : LK RX2 12 (TX2 0) := Or.inl (WT_mem (List.mem_append_right _ (List.mem_of_getElem? (i := 96) (by decide +kernel))) (by decide +kernel))
theorem lk_X8_23 : LK RX8 23 (TX2 0) := Or.inr ⟨"LineScript", List.mem_append_right _ (List.mem_of_getElem? (i := 97) (by decide +kernel))⟩
theorem lk_X6_39 : LK RX6 39 (TX2 0) := Or.inr ⟨"LineScript", List.mem_append_right _ (List.mem_of_getElem? (i := 98) (by decide +kernel))⟩
theorem lk_X2_20 : LK RX2 20 (TX2 1) := Or.inl (WT_mem (List.mem_append_right _ (List.mem_of_getElem? (i := 99) (by decide +kernel))) (by decide +kernel))
theorem lk_X6_69 : LK RX6 69 (TX2 1) := Or.inr ⟨"LineScript", List.mem_append_right _ (List.mem_of_getElem? (i := 100) (by decide +kernel))⟩
theorem lk_X8_110 : LK RX8 110 (TX2 1) := Or.inr ⟨"LineScript", List.mem_append_right _ (List.mem_of_getElem? (i := 101) (by decide +kernel))⟩
theorem lk_X2_26 : LK RX2 26 (TX2 2) := Or.inl (WT_mem (List.mem_append_right _ (List.mem_of_getElem? (i := 102) (by decide +kernel))) (by decide +kernel))
theorem lk_X2_30 : LK RX2 30 (TX2 3) := Or.inl (WT_mem (List.mem_append_right _ (List.mem_of_getElem? (i := 103) (by decide +kernel))) (by decide +kernel))
theorem lk_X2_34 : LK RX2 34 (TX2 4) := Or.inl (WT_mem (List.mem_append_right _ (List.mem_of_getElem? (i := 104) (by decide +kernel))) (by decide +kernel))
theorem lk_X2_37 : LK RX2 37 (TX2 5) := Or.inl (WT_mem (List.mem_append_right _ (List.mem_of_getElem? (i := 105) (by decide +kernel))) (by decide +kernel))
theorem lk_X2_40 : LK RX2 40 (TX2 6) := Or.inl (WT_mem (List.mem_append_right _ (List.mem_of_getElem? (i := 106) (by decide +kernel))) (by decide +kernel))
theorem lk_X2_43 : LK RX2 43 (TX2 7) := Or.inl (WT_mem (List.mem_append_right _ (List.mem_of_getElem? (i := 107) (by decide +kernel))) (by decide +kernel))
theorem lk_X8_185 : LK RX8 185 (TX2 7) := Or.inr ⟨"LineScript", List.mem_append_right _ (List.mem_of_getElem? (i := 108) (by decide +kernel))⟩
theorem lk_X2_47 : LK RX2 47 (TX2 8) := Or.inl (WT_mem (List.mem_append_right _ (List.mem_of_getElem? (i := 109) (by decide +kernel))) (by decide +kernel))
theorem lk_X8_182 : LK RX8 182 (TX2 8) := Or.inr ⟨"LineScript", List.mem_append_right _ (List.mem_of_getElem? (i := 110) (by decide +kernel))⟩
theorem lk_X1_12 : LK RX1 12 (TX1 0) := Or.inl (WT_mem (List.mem_append_right _ (List.mem_of_getElem? (i := 140) (by decide +kernel))) (by decide +kernel))
theorem lk_X1_18 : LK RX1 18 (TX1 1) := Or.inl (WT_mem (List.mem_append_right _ (List.mem_of_getElem? (i := 141) (by decide +kernel))) (by decide +kernel))
theorem lk_X1_22 : LK RX1 22 (TX1 2) := Or.inl (WT_mem (List.mem_append_right _ (List.mem_of_getElem? (i := 142) (by decide +kernel))) (by decide +kernel))
theorem lk_X6_9 : LK RX6 9 (TX6 0) := Or.inl (WT_mem (List.mem_append_right _ (List.mem_of_getElem? (i := 157) (by decide +kernel))) (by decide +kernel))
theorem lk_X8_118 : LK RX8 118 (TX6 0) := Or.inr ⟨"LineScript", List.mem_append_right _ (List.mem_of_getElem? (i := 158) (by decide +kernel))⟩
theorem lk_X6_15 : LK RX6 15 (TX6 1) := Or.inl (WT_mem (List.mem_append_right _ (List.mem_of_getElem? (i := 159) (by decide +kernel))) (by decide +kernel))
theorem lk_X8_122 : LK RX8 122 (TX6 1) := Or.inr ⟨"LineScript", List.mem_append_right _ (List.mem_of_getElem? (i := 160) (by decide +kernel))⟩
theorem lk_X6_18 : LK RX6 18 (TX6 2) := Or.inl (WT_mem (List.mem_append_right _ (List.mem_of_getElem? (i := 161) (by decide +kernel))) (by decide +kernel))
theorem lk_X8_125 : LK RX8 125 (TX6 2) := Or.inr ⟨"LineScript", List.mem_append_right _ (List.mem_of_getElem? (i := 162) (by decide +kernel))⟩
theorem lk_X6_21 : LK RX6 21 (TX6 3) := Or.inl (WT_mem (List.mem_append_right _ (List.mem_of_getElem? (i := 163) (by decide +kernel))) (by decide +kernel))
theorem lk_X8_128 : LK RX8 128 (TX6 3) := Or.inr ⟨"LineScript", List.mem_append_right _ (List.mem_of_getElem? (i := 164) (by decide +kernel))⟩
theorem lk_X6_24 : LK RX6 24 (TX6 4) := Or.inl (WT_mem (List.mem_append_right _ (List.mem_of_getElem? (i := 165) (by decide +kernel))) (by decide +kernel))
theorem lk_X8_131 : LK RX8 131 (TX6 4) := Or.inr ⟨"LineScript", List.mem_append_right _ (List.mem_of_getElem? (i := 166) (by decide +kernel))⟩
theorem lk_X6_29 : LK RX6 29 (TX6 5) := Or.inl (WT_mem (List.mem_append_right _ (List.mem_of_getElem? (i := 167) (by decide +kernel))) (by decide +kernel))
theorem lk_X8_113 : LK RX8 113 (TX6 5) := Or.inr ⟨"LineScript", List.mem_append_right _ (List.mem_of_getElem? (i := 168) (by decide +kernel))⟩
theorem lk_X6_32 : LK RX6 32 (TX6 6) := Or.inl (WT_mem (List.mem_append_right _ (List.mem_of_getElem? (i := 169) (by decide +kernel))) (by decide +kernel))
theorem lk_X8_209 : LK RX8 209 (TX6 6) := Or.inr ⟨"LineScript", List.mem_append_right _ (List.mem_of_getElem? (i := 170) (by decide +kernel))⟩
theorem lk_X6_36 : LK RX6 36 (TX6 7) := Or.inl (WT_mem (List.mem_append_right _ (List.mem_of_getElem? (i := 171) (by decide +kernel))) (by decide +kernel))
theorem lk_X8_188 : LK RX8 188 (TX6 7) := Or.inr ⟨"LineScript", List.mem_append_right _ (List.mem_of_getElem? (i := 172) (by decide +kernel))⟩
theorem lk_X4_11 : LK RX4 11 (TX4 0) := Or.inl (WT_mem (List.mem_append_right _ (List.mem_of_getElem? (i := 197) (by decide +kernel))) (by decide +kernel))
theorem lk_X8_152 : LK RX8 152 (TX4 0) := Or.inr ⟨"LineScript", List.mem_append_right _ (List.mem_of_getElem? (i := 198) (by decide +kernel))⟩
theorem lk_X4_16 : LK RX4 16 (TX4 1) := Or.inl (WT_mem (List.mem_append_right _ (List.mem_of_getElem? (i := 199) (by decide +kernel))) (by decide +kernel))
theorem lk_X8_148 : LK RX8 148 (TX4 1) := Or.inr ⟨"LineScript", List.mem_append_right _ (List.mem_of_getElem? (i := 200) (by decide +kernel))⟩
theorem lk_X8_10 : LK RX8 10 (TX8 0) := Or.inl (WT_mem (List.mem_append_right _ (List.mem_of_getElem? (i := 206) (by decide +kernel))) (by decide +kernel))
theorem lk_X8_19 : LK RX8 19 (TX8 1) := Or.inl (WT_mem (List.mem_append_right _ (List.mem_of_getElem? (i := 207) (by decide +kernel))) (by decide +kernel))
theorem lk_X8_27 : LK RX8 27 (TX8 2) := Or.inl (WT_mem (List.mem_append_right _ (List.mem_of_getElem? (i := 208) (by decide +kernel))) (by decide +kernel))
theorem lk_X8_28 : LK RX8 28 (TX8 3) := Or.inl (WT_mem (List.mem_append_right _ (List.mem_of_getElem? (i := 209) (by decide +kernel))) (by decide +kernel))
theorem lk_X8_34 : LK RX8 34 (TX8 4) := Or.inl (WT_mem (List.mem_append_right _ (List.mem_of_getElem? (i := 210) (by decide +kernel))) (by decide +kernel))
theorem lk_X8_40 : LK RX8 40 (TX8 5) := Or.inl (WT_mem (List.mem_append_right _ (List.mem_of_getElem? (i := 211) (by decide +kernel))) (by decide +kernel))
theorem lk_X8_47 : LK RX8 47 (TX8 6) := Or.inl (WT_mem (List.mem_append_right _ (List.mem_of_getElem? (i := 212) (by decide +kernel))) (by decide +kernel))
theorem lk_X8_54 : LK RX8 54 (TX8 7) := Or.inl (WT_mem (List.mem_append_right _ (List.mem_of_getElem? (i := 213) (by decide +kernel))) (by decide +kernel))
theorem lk_X8_58 : LK RX8 58 (TX8 8) := Or.inl (WT_mem (List.mem_append_right _ (List.mem_of_getElem? (i := 214) (by decide +kernel))) (by decide +kernel))
theorem lk_X8_62 : LK RX8 62 (TX8 9) := Or.inl (WT_mem (List.mem_append_right _ (List.mem_of_getElem? (i := 215) (by decide +kernel))) (by decide +kernel))
theorem lk_X8_65 : LK RX8 65 (TX8 10) := Or.inl (WT_mem (List.mem_append_right _ (List.mem_of_getElem? (i := 216) (by decide +kernel))) (by decide +kernel))
theorem lk_X9_7 : LK RX9 7 (TX9 0) := Or.inl (WT_mem (List.mem_append_right _ (List.mem_of_getElem? (i := 634) (by decide +kernel))) (by decide +kernel))
theorem lk_X9_77 : LK RX9 77 (TX9 1) := Or.inl (WT_mem (List.mem_append_right _ (List.mem_of_getElem? (i := 635) (by decide +kernel))) (by decide +kernel))
theorem lk_X9_87 : LK RX9 87 (TX9 2) := Or.inl (WT_mem (List.mem_append_right _ (List.mem_of_getElem? (i := 636) (by decide +kernel))) (by decide +kernel))
theorem lk_X9_84 : LK RX9 84 (TX9 3) := Or.inl (WT_mem (List.mem_append_right _ (List.mem_of_getElem? (i := 637) (by decide +kernel))) (by decide +kernel))
theorem lk_X9_13 : LK RX9 13 (TX9 4) := Or.inl (WT_mem (List.mem_append_right _ (List.mem_of_getElem? (i := 638) (by decide +kernel))) (by decide +kernel))
theorem lk_X9_16 : LK RX9 16 (TX9 5) := Or.inl (WT_mem (List.mem_append_right _ (List.mem_of_getElem? (i := 639) (by decide +kernel))) (by decide +kernel))
theorem lk_X9_90 : LK RX9 90 (TX9 6) := Or.inl (WT_mem (List.mem_append_right _ (List.mem_of_getElem? (i := 640) (by decide +kernel))) (by decide +kernel))
theorem lk_X9_19 : LK RX9 19 (TX9 7) := Or.inl (WT_mem (List.mem_append_right _ (List.mem_of_getElem? (i := 641) (by decide +kernel))) (by decide +kernel))
theorem lk_X9_22 : LK RX9 22 (TX9 8) := Or.inl (WT_mem (List.mem_append_right _ (List.mem_of_getElem? (i := 642) (by decide +kernel))) (by decide +kernel))
theorem lk_X9_106 : LK RX9 106 (TX9 9) := Or.inl (WT_mem (List.mem_append_right _ (List.mem_of_getElem? (i := 643) (by decide +kernel))) (by decide +kernel))
theorem lk_X9_109 : LK RX9 109 (TX9 10) := Or.inl (WT_mem (List.mem_append_right _ (List.mem_of_getElem? (i := 644) (by decide +kernel))) (by decide +kernel))
theorem lk_X9_25 : LK RX9 25 (TX9 11) := Or.inl (WT_mem (List.mem_append_right _ (List.mem_of_getElem? (i := 645) (by decide +kernel))) (by decide +kernel))
theorem lk_X9_133 : LK RX9 133 (TX9 12) := Or.inl (WT_mem (List.mem_append_right _ (List.mem_of_getElem? (i := 646) (by decide +kernel))) (by decide +kernel))
theorem lk_X9_157 : LK RX9 157 (TX9 13) := Or.inl (WT_mem (List.mem_append_right _ (List.mem_of_getElem? (i := 647) (by decide +kernel))) (by decide +kernel))
theorem lk_X9_28 : LK RX9 28 (TX9 14) := Or.inl (WT_mem (List.mem_append_right _ (List.mem_of_getElem? (i := 648) (by decide +kernel))) (by decide +kernel))
theorem lk_X9_118 : LK RX9 118 (TX9 15) := Or.inl (WT_mem (List.mem_append_right _ (List.mem_of_getElem? (i := 649) (by decide +kernel))) (by decide +kernel))
theorem lk_X9_31 : LK RX9 31 (TX9 16) := Or.inl (WT_mem (List.mem_append_right _ (List.mem_of_getElem? (i := 650) (by decide +kernel))) (by decide +kernel))
theorem lk_X9_34 : LK RX9 34 (TX9 17) := Or.inl (WT_mem (List.mem_append_right _ (List.mem_of_getElem? (i := 651) (by decide +kernel))) (by decide +kernel))
theorem lk_X9_37 : LK RX9 37 (TX9 18) := Or.inl (WT_mem (List.mem_append_right _ (List.mem_of_getElem? (i := 652) (by decide +kernel))) (by decide +kernel))
theorem lk_X9_40 : LK RX9 40 (TX9 19) := Or.inl (WT_mem (List.mem_append_right _ (List.mem_of_getElem? (i := 653) (by decide +kernel))) (by decide +kernel))
theorem lk_X9_43 : LK RX9 43 (TX9 20) := Or.inl (WT_mem (List.mem_append_right _ (List.mem_of_getElem? (i := 654) (by decide +kernel))) (by decide +kernel))
theorem lk_X9_46 : LK RX9 46 (TX9 21) := Or.inl (WT_mem (List.mem_append_right _ (List.mem_of_getElem? (i := 655) (by decide +kernel))) (by decide +kernel))
theorem lk_X9_197 : LK RX9 197 (TX9 22) := Or.inl (WT_mem (List.mem_append_right _ (List.mem_of_getElem? (i := 656) (by decide +kernel))) (by decide +kernel))
theorem lk_X9_203 : LK RX9 203 (TX9 23) := Or.inl (WT_mem (List.mem_append_right _ (List.mem_of_getElem? (i := 657) (by decide +kernel))) (by decide +kernel))
theorem lk_X9_49 : LK RX9 49 (TX9 24) := Or.inl (WT_mem (List.mem_append_right _ (List.mem_of_getElem? (i := 658) (by decide +kernel))) (by decide +kernel))
theorem lk_X9_52 : LK RX9 52 (TX9 25) := Or.inl (WT_mem (List.mem_append_right _ (List.mem_of_getElem? (i := 659) (by decide +kernel))) (by decide +kernel))
theorem lk_X9_272 : LK RX9 272 (TX9 26) := Or.inl (WT_mem (List.mem_append_right _ (List.mem_of_getElem? (i := 660) (by decide +kernel))) (by decide +kernel))
theorem lk_X9_55 : LK RX9 55 (TX9 27) := Or.inl (WT_mem (List.mem_append_right _ (List.mem_of_getElem? (i := 661) (by decide +kernel))) (by decide +kernel))
theorem lk_X9_58 : LK RX9 58 (TX9 28) := Or.inl (WT_mem (List.mem_append_right _ (List.mem_of_getElem? (i := 662) (by decide +kernel))) (by decide +kernel))
theorem lk_X9_67 : LK RX9 67 (TX9 29) := Or.inl (WT_mem (List.mem_append_right _ (List.mem_of_getElem? (i := 663) (by decide +kernel))) (by decide +kernel))
theorem lk_X9_61 : LK RX9 61 (TX9 30) := Or.inl (WT_mem (List.mem_append_right _ (List.mem_of_getElem? (i := 664) (by decide +kernel))) (by decide +kernel))
theorem lk_X9_64 : LK RX9 64 (TX9 31) := Or.inl (WT_mem (List.mem_append_right _ (List.mem_of_getElem? (i := 665) (by decide +kernel))) (by decide +kernel))
theorem lk_X9_296 : LK RX9 296 (TX9 32) := Or.inl (WT_mem (List.mem_append_right _ (List.mem_of_getElem? (i := 666) (by decide +kernel))) (by decide +kernel))
theorem lk_kab : Cond.fieldLink RX8 269 "LineScript" "KIND_ABOVE" "[I" ∈ WT := WT_mem (List.mem_append_right _ (List.mem_of_getElem? (i := 474) (by decide +kernel))) (by decide +kernel)
theorem lc_L_13 : LC RL 13 mX8_letter := Or.inl (WT_mem (List.mem_append_right _ (List.mem_of_getElem? (i := 240) (by decide +kernel))) (by decide +kernel))
theorem lc_X8_69 : LC RX8 69 mX3_append := Or.inr ⟨"LineScript", List.mem_append_right _ (List.mem_of_getElem? (i := 244) (by decide +kernel))⟩
theorem lc_L_18 : LC RL 18 mX8_blank := Or.inl (WT_mem (List.mem_append_right _ (List.mem_of_getElem? (i := 248) (by decide +kernel))) (by decide +kernel))
theorem lc_L_23 : LC RL 23 mX8_fault := Or.inl (WT_mem (List.mem_append_right _ (List.mem_of_getElem? (i := 252) (by decide +kernel))) (by decide +kernel))
theorem lc_X8_76 : LC RX8 76 mX3_firstFault := Or.inr ⟨"LineScript", List.mem_append_right _ (List.mem_of_getElem? (i := 256) (by decide +kernel))⟩
theorem lc_X3_26 : LC RX3 26 mX5_begin := Or.inr ⟨"LineScript", List.mem_append_right _ (List.mem_of_getElem? (i := 260) (by decide +kernel))⟩
theorem lc_X3_29 : LC RX3 29 mX5_takes := Or.inr ⟨"LineScript", List.mem_append_right _ (List.mem_of_getElem? (i := 264) (by decide +kernel))⟩
theorem lc_X5_21 : LC RX5 21 mX8_isLetter := Or.inr ⟨"LineScript", List.mem_append_right _ (List.mem_of_getElem? (i := 268) (by decide +kernel))⟩
theorem lc_X5_25 : LC RX5 25 mX5_takesLetter := Or.inl (WT_mem (List.mem_append_right _ (List.mem_of_getElem? (i := 271) (by decide +kernel))) (by decide +kernel))
theorem lc_X5_29 : LC RX5 29 mX5_takesComma := Or.inl (WT_mem (List.mem_append_right _ (List.mem_of_getElem? (i := 275) (by decide +kernel))) (by decide +kernel))
theorem lc_X5_32 : LC RX5 32 mX5_takesSemicolon := Or.inl (WT_mem (List.mem_append_right _ (List.mem_of_getElem? (i := 279) (by decide +kernel))) (by decide +kernel))
theorem lc_X5_35 : LC RX5 35 mX5_sideMayEnd := Or.inl (WT_mem (List.mem_append_right _ (List.mem_of_getElem? (i := 283) (by decide +kernel))) (by decide +kernel))
theorem lc_L_27 : LC RL 27 mX8_text := Or.inl (WT_mem (List.mem_append_right _ (List.mem_of_getElem? (i := 287) (by decide +kernel))) (by decide +kernel))
theorem lc_X8_80 : LC RX8 80 mX3_isText := Or.inr ⟨"LineScript", List.mem_append_right _ (List.mem_of_getElem? (i := 291) (by decide +kernel))⟩
theorem lc_X3_33 : LC RX3 33 mX3_firstFault := Or.inl (WT_mem (List.mem_append_right _ (List.mem_of_getElem? (i := 295) (by decide +kernel))) (by decide +kernel))
theorem lc_X3_37 : LC RX3 37 mX5_mayEnd := Or.inr ⟨"LineScript", List.mem_append_right _ (List.mem_of_getElem? (i := 296) (by decide +kernel))⟩
theorem lc_X8_84 : LC RX8 84 mX3_readInto := Or.inr ⟨"LineScript", List.mem_append_right _ (List.mem_of_getElem? (i := 300) (by decide +kernel))⟩
theorem lc_X3_41 : LC RX3 41 mX7_clear := Or.inr ⟨"LineScript", List.mem_append_right _ (List.mem_of_getElem? (i := 304) (by decide +kernel))⟩
theorem lc_X3_46 : LC RX3 46 mX8_isLetter := Or.inr ⟨"LineScript", List.mem_append_right _ (List.mem_of_getElem? (i := 308) (by decide +kernel))⟩
theorem lc_X3_49 : LC RX3 49 mX7_appendLine := Or.inr ⟨"LineScript", List.mem_append_right _ (List.mem_of_getElem? (i := 309) (by decide +kernel))⟩
theorem lc_X7_30 : LC RX7 30 mX7_insert := Or.inl (WT_mem (List.mem_append_right _ (List.mem_of_getElem? (i := 313) (by decide +kernel))) (by decide +kernel))
theorem lc_X7_20 : LC RX7 20 mX8_isSide := Or.inr ⟨"LineScript", List.mem_append_right _ (List.mem_of_getElem? (i := 317) (by decide +kernel))⟩
theorem lc_X8_88 : LC RX8 88 mX8_compareAnew := Or.inl (WT_mem (List.mem_append_right _ (List.mem_of_getElem? (i := 320) (by decide +kernel))) (by decide +kernel))
theorem lc_X8_248 : LC RX8 248 mX2_compare := Or.inr ⟨"LineScript", List.mem_append_right _ (List.mem_of_getElem? (i := 324) (by decide +kernel))⟩
theorem lc_X2_53 : LC RX2 53 mX2_matchParts := Or.inl (WT_mem (List.mem_append_right _ (List.mem_of_getElem? (i := 328) (by decide +kernel))) (by decide +kernel))
theorem lc_X2_74 : LC RX2 74 mX2_same := Or.inl (WT_mem (List.mem_append_right _ (List.mem_of_getElem? (i := 332) (by decide +kernel))) (by decide +kernel))
theorem lc_X2_78 : LC RX2 78 mX2_keep := Or.inl (WT_mem (List.mem_append_right _ (List.mem_of_getElem? (i := 336) (by decide +kernel))) (by decide +kernel))
theorem lc_X2_82 : LC RX2 82 mX2_findAnchors := Or.inl (WT_mem (List.mem_append_right _ (List.mem_of_getElem? (i := 340) (by decide +kernel))) (by decide +kernel))
theorem lc_X2_95 : LC RX2 95 mX2_onlyPlaceOf := Or.inl (WT_mem (List.mem_append_right _ (List.mem_of_getElem? (i := 344) (by decide +kernel))) (by decide +kernel))
theorem lc_X2_86 : LC RX2 86 mX2_keepLongestChain := Or.inl (WT_mem (List.mem_append_right _ (List.mem_of_getElem? (i := 348) (by decide +kernel))) (by decide +kernel))
theorem lc_X2_99 : LC RX2 99 mX2_measureChains := Or.inl (WT_mem (List.mem_append_right _ (List.mem_of_getElem? (i := 352) (by decide +kernel))) (by decide +kernel))
theorem lc_X2_103 : Cond.methodLink RX2 103 Lib.Math.max.name ∈ WT := WT_mem (List.mem_append_right _ (List.mem_of_getElem? (i := 356) (by decide +kernel))) (by decide +kernel)
theorem lc_X2_89 : LC RX2 89 mX2_matchBetweenAnchors := Or.inl (WT_mem (List.mem_append_right _ (List.mem_of_getElem? (i := 359) (by decide +kernel))) (by decide +kernel))
theorem lc_X2_92 : LC RX2 92 mX2_keepMost := Or.inl (WT_mem (List.mem_append_right _ (List.mem_of_getElem? (i := 363) (by decide +kernel))) (by decide +kernel))
theorem lc_X2_70 : LC RX2 70 mX0_most := Or.inr ⟨"LineScript", List.mem_append_right _ (List.mem_of_getElem? (i := 367) (by decide +kernel))⟩
theorem lc_X0_16 : Cond.methodLink RX0 16 Lib.Math.max.name ∈ WT := WT_mem (List.mem_append_right _ (List.mem_of_getElem? (i := 371) (by decide +kernel))) (by decide +kernel)
theorem lc_X2_57 : LC RX2 57 mX2_slideGaps := Or.inl (WT_mem (List.mem_append_right _ (List.mem_of_getElem? (i := 372) (by decide +kernel))) (by decide +kernel))
theorem lc_X2_111 : LC RX2 111 mX2_widenGap := Or.inl (WT_mem (List.mem_append_right _ (List.mem_of_getElem? (i := 376) (by decide +kernel))) (by decide +kernel))
theorem lc_X2_114 : LC RX2 114 mX2_slideGap := Or.inl (WT_mem (List.mem_append_right _ (List.mem_of_getElem? (i := 380) (by decide +kernel))) (by decide +kernel))
theorem lc_X2_117 : LC RX2 117 mX2_maySlide := Or.inl (WT_mem (List.mem_append_right _ (List.mem_of_getElem? (i := 384) (by decide +kernel))) (by decide +kernel))
theorem lc_X2_121 : LC RX2 121 mX2_slideOnce := Or.inl (WT_mem (List.mem_append_right _ (List.mem_of_getElem? (i := 388) (by decide +kernel))) (by decide +kernel))
theorem lc_X8_251 : LC RX8 251 mX6_build := Or.inr ⟨"LineScript", List.mem_append_right _ (List.mem_of_getElem? (i := 392) (by decide +kernel))⟩
theorem lc_X6_45 : LC RX6 45 mX6_nextKept := Or.inl (WT_mem (List.mem_append_right _ (List.mem_of_getElem? (i := 396) (by decide +kernel))) (by decide +kernel))
theorem lc_X6_49 : LC RX6 49 mX6_findChanged := Or.inl (WT_mem (List.mem_append_right _ (List.mem_of_getElem? (i := 400) (by decide +kernel))) (by decide +kernel))
theorem lc_X6_72 : Cond.methodLink RX6 72 Lib.Math.min.name ∈ WT := WT_mem (List.mem_append_right _ (List.mem_of_getElem? (i := 404) (by decide +kernel))) (by decide +kernel)
theorem lc_X6_81 : LC RX6 81 mX1_fraction := Or.inr ⟨"LineScript", List.mem_append_right _ (List.mem_of_getElem? (i := 407) (by decide +kernel))⟩
theorem lc_X1_29 : LC RX1 29 mX8_lettersIn := Or.inr ⟨"LineScript", List.mem_append_right _ (List.mem_of_getElem? (i := 411) (by decide +kernel))⟩
theorem lc_X1_37 : LC RX1 37 mX1_commonLetters := Or.inl (WT_mem (List.mem_append_right _ (List.mem_of_getElem? (i := 414) (by decide +kernel))) (by decide +kernel))
theorem lc_X1_25 : LC RX1 25 mX8_codeAt := Or.inr ⟨"LineScript", List.mem_append_right _ (List.mem_of_getElem? (i := 418) (by decide +kernel))⟩
theorem lc_X8_102 : LC RX8 102 mX8_lettersIn := Or.inl (WT_mem (List.mem_append_right _ (List.mem_of_getElem? (i := 421) (by decide +kernel))) (by decide +kernel))
theorem lc_X1_33 : LC RX1 33 mX0_most := Or.inr ⟨"LineScript", List.mem_append_right _ (List.mem_of_getElem? (i := 422) (by decide +kernel))⟩
theorem lc_X6_53 : LC RX6 53 mX6_addDropped := Or.inl (WT_mem (List.mem_append_right _ (List.mem_of_getElem? (i := 424) (by decide +kernel))) (by decide +kernel))
theorem lc_X6_65 : LC RX6 65 mX6_addStep := Or.inl (WT_mem (List.mem_append_right _ (List.mem_of_getElem? (i := 428) (by decide +kernel))) (by decide +kernel))
theorem lc_X6_89 : LC RX6 89 mX8_singleBits := Or.inr ⟨"LineScript", List.mem_append_right _ (List.mem_of_getElem? (i := 432) (by decide +kernel))⟩
theorem lc_X6_57 : LC RX6 57 mX6_addAdded := Or.inl (WT_mem (List.mem_append_right _ (List.mem_of_getElem? (i := 437) (by decide +kernel))) (by decide +kernel))
theorem lc_X8_255 : LC RX8 255 mX4_clear := Or.inr ⟨"LineScript", List.mem_append_right _ (List.mem_of_getElem? (i := 442) (by decide +kernel))⟩
theorem lc_X8_91 : LC RX8 91 mX7_total := Or.inr ⟨"LineScript", List.mem_append_right _ (List.mem_of_getElem? (i := 446) (by decide +kernel))⟩
theorem lc_L_31 : LC RL 31 mX8_line := Or.inl (WT_mem (List.mem_append_right _ (List.mem_of_getElem? (i := 450) (by decide +kernel))) (by decide +kernel))
theorem lc_X8_94 : LC RX8 94 mX7_has := Or.inr ⟨"LineScript", List.mem_append_right _ (List.mem_of_getElem? (i := 454) (by decide +kernel))⟩
theorem lc_X8_106 : LC RX8 106 mX8_codeAt := Or.inl (WT_mem (List.mem_append_right _ (List.mem_of_getElem? (i := 458) (by decide +kernel))) (by decide +kernel))
theorem lc_L_36 : LC RL 36 mX8_step := Or.inl (WT_mem (List.mem_append_right _ (List.mem_of_getElem? (i := 459) (by decide +kernel))) (by decide +kernel))
theorem lc_X8_116 : LC RX8 116 mX6_has := Or.inr ⟨"LineScript", List.mem_append_right _ (List.mem_of_getElem? (i := 463) (by decide +kernel))⟩
theorem lc_L_41 : LC RL 41 mX8_letters := Or.inl (WT_mem (List.mem_append_right _ (List.mem_of_getElem? (i := 467) (by decide +kernel))) (by decide +kernel))
theorem lc_X8_134 : LC RX8 134 mX8_isOfKind := Or.inl (WT_mem (List.mem_append_right _ (List.mem_of_getElem? (i := 471) (by decide +kernel))) (by decide +kernel))
theorem lc_X8_137 : LC RX8 137 mX1_commonLetters := Or.inr ⟨"LineScript", List.mem_append_right _ (List.mem_of_getElem? (i := 476) (by decide +kernel))⟩
theorem lc_L_45 : LC RL 45 mX8_like := Or.inl (WT_mem (List.mem_append_right _ (List.mem_of_getElem? (i := 477) (by decide +kernel))) (by decide +kernel))
theorem lc_X8_140 : LC RX8 140 mX1_fraction := Or.inr ⟨"LineScript", List.mem_append_right _ (List.mem_of_getElem? (i := 481) (by decide +kernel))⟩
theorem lc_X8_144 : LC RX8 144 mX8_singleBits := Or.inl (WT_mem (List.mem_append_right _ (List.mem_of_getElem? (i := 482) (by decide +kernel))) (by decide +kernel))
theorem lc_L_49 : LC RL 49 mX8_rack := Or.inl (WT_mem (List.mem_append_right _ (List.mem_of_getElem? (i := 483) (by decide +kernel))) (by decide +kernel))
theorem lc_X8_150 : LC RX8 150 mX4_append := Or.inr ⟨"LineScript", List.mem_append_right _ (List.mem_of_getElem? (i := 487) (by decide +kernel))⟩
theorem lc_L_53 : LC RL 53 mX8_racked := Or.inl (WT_mem (List.mem_append_right _ (List.mem_of_getElem? (i := 491) (by decide +kernel))) (by decide +kernel))
theorem lc_L_57 : LC RL 57 mX8_put := Or.inl (WT_mem (List.mem_append_right _ (List.mem_of_getElem? (i := 495) (by decide +kernel))) (by decide +kernel))
theorem lc_X8_155 : LC RX8 155 mX8_isSide := Or.inl (WT_mem (List.mem_append_right _ (List.mem_of_getElem? (i := 499) (by decide +kernel))) (by decide +kernel))
theorem lc_X8_159 : LC RX8 159 mX8_isLine := Or.inl (WT_mem (List.mem_append_right _ (List.mem_of_getElem? (i := 500) (by decide +kernel))) (by decide +kernel))
theorem lc_X8_266 : LC RX8 266 mX8_isLetter := Or.inl (WT_mem (List.mem_append_right _ (List.mem_of_getElem? (i := 503) (by decide +kernel))) (by decide +kernel))
theorem lc_X8_162 : LC RX8 162 mX7_insert := Or.inr ⟨"LineScript", List.mem_append_right _ (List.mem_of_getElem? (i := 504) (by decide +kernel))⟩
theorem lc_L_61 : LC RL 61 mX8_take := Or.inl (WT_mem (List.mem_append_right _ (List.mem_of_getElem? (i := 505) (by decide +kernel))) (by decide +kernel))
theorem lc_X8_166 : LC RX8 166 mX7_remove := Or.inr ⟨"LineScript", List.mem_append_right _ (List.mem_of_getElem? (i := 509) (by decide +kernel))⟩
theorem lc_X7_34 : LC RX7 34 mX7_has := Or.inl (WT_mem (List.mem_append_right _ (List.mem_of_getElem? (i := 513) (by decide +kernel))) (by decide +kernel))
theorem lc_L_65 : LC RL 65 mX8_swap := Or.inl (WT_mem (List.mem_append_right _ (List.mem_of_getElem? (i := 514) (by decide +kernel))) (by decide +kernel))
theorem lc_X8_170 : LC RX8 170 mX7_exchangeLines := Or.inr ⟨"LineScript", List.mem_append_right _ (List.mem_of_getElem? (i := 518) (by decide +kernel))⟩
theorem lc_L_69 : LC RL 69 mX8_turn := Or.inl (WT_mem (List.mem_append_right _ (List.mem_of_getElem? (i := 522) (by decide +kernel))) (by decide +kernel))
theorem lc_X8_173 : LC RX8 173 mX7_exchangeSides := Or.inr ⟨"LineScript", List.mem_append_right _ (List.mem_of_getElem? (i := 526) (by decide +kernel))⟩
theorem lc_L_73 : LC RL 73 mX8_cost := Or.inl (WT_mem (List.mem_append_right _ (List.mem_of_getElem? (i := 530) (by decide +kernel))) (by decide +kernel))
theorem lc_X8_176 : LC RX8 176 mX2_notKept := Or.inr ⟨"LineScript", List.mem_append_right _ (List.mem_of_getElem? (i := 534) (by decide +kernel))⟩
theorem lc_X2_60 : LC RX2 60 mX7_total := Or.inr ⟨"LineScript", List.mem_append_right _ (List.mem_of_getElem? (i := 538) (by decide +kernel))⟩
theorem lc_X2_64 : LC RX2 64 mX2_kept := Or.inl (WT_mem (List.mem_append_right _ (List.mem_of_getElem? (i := 539) (by decide +kernel))) (by decide +kernel))
theorem lc_X8_179 : LC RX8 179 mX2_shortest := Or.inr ⟨"LineScript", List.mem_append_right _ (List.mem_of_getElem? (i := 543) (by decide +kernel))⟩
theorem lc_L_77 : LC RL 77 mX8_best := Or.inl (WT_mem (List.mem_append_right _ (List.mem_of_getElem? (i := 547) (by decide +kernel))) (by decide +kernel))
theorem lc_X8_191 : LC RX8 191 mX8_costOfPutting := Or.inl (WT_mem (List.mem_append_right _ (List.mem_of_getElem? (i := 551) (by decide +kernel))) (by decide +kernel))
theorem lc_X8_206 : LC RX8 206 mX7_copyFrom := Or.inr ⟨"LineScript", List.mem_append_right _ (List.mem_of_getElem? (i := 555) (by decide +kernel))⟩
theorem lc_X7_24 : Cond.methodLink RX7 24 arraycopyName ∈ WT := WT_mem (List.mem_append_right _ (List.mem_of_getElem? (i := 559) (by decide +kernel))) (by decide +kernel)
theorem lc_L_81 : LC RL 81 mX8_all := Or.inl (WT_mem (List.mem_append_right _ (List.mem_of_getElem? (i := 562) (by decide +kernel))) (by decide +kernel))
theorem lc_X8_196 : LC RX8 196 mX2_kept := Or.inr ⟨"LineScript", List.mem_append_right _ (List.mem_of_getElem? (i := 567) (by decide +kernel))⟩
theorem lc_X8_199 : LC RX8 199 mX8_doubleBits := Or.inl (WT_mem (List.mem_append_right _ (List.mem_of_getElem? (i := 568) (by decide +kernel))) (by decide +kernel))
theorem lc_L_86 : LC RL 86 mX8_drawn := Or.inl (WT_mem (List.mem_append_right _ (List.mem_of_getElem? (i := 575) (by decide +kernel))) (by decide +kernel))
theorem lc_X8_203 : LC RX8 203 mX8_drawTrial := Or.inl (WT_mem (List.mem_append_right _ (List.mem_of_getElem? (i := 579) (by decide +kernel))) (by decide +kernel))
theorem lc_X8_258 : LC RX8 258 mX7_clear := Or.inr ⟨"LineScript", List.mem_append_right _ (List.mem_of_getElem? (i := 583) (by decide +kernel))⟩
theorem lc_L_90 : LC RL 90 mX8_image := Or.inl (WT_mem (List.mem_append_right _ (List.mem_of_getElem? (i := 588) (by decide +kernel))) (by decide +kernel))
theorem lc_L_94 : LC RL 94 mX8_restore := Or.inl (WT_mem (List.mem_append_right _ (List.mem_of_getElem? (i := 592) (by decide +kernel))) (by decide +kernel))
theorem lc_L_98 : LC RL 98 mX8_count := Or.inl (WT_mem (List.mem_append_right _ (List.mem_of_getElem? (i := 596) (by decide +kernel))) (by decide +kernel))
theorem lc_X8_210 : LC RX8 210 mX6_howManyOf := Or.inr ⟨"LineScript", List.mem_append_right _ (List.mem_of_getElem? (i := 600) (by decide +kernel))⟩
theorem lc_X8_213 : LC RX8 213 mX4_total := Or.inr ⟨"LineScript", List.mem_append_right _ (List.mem_of_getElem? (i := 604) (by decide +kernel))⟩
theorem lc_L_102 : LC RL 102 mX8_digest := Or.inl (WT_mem (List.mem_append_right _ (List.mem_of_getElem? (i := 608) (by decide +kernel))) (by decide +kernel))
theorem lc_X8_216 : LC RX8 216 mX8_digestOfLines := Or.inl (WT_mem (List.mem_append_right _ (List.mem_of_getElem? (i := 613) (by decide +kernel))) (by decide +kernel))
theorem lc_X8_241 : LC RX8 241 mX8_line := Or.inl (WT_mem (List.mem_append_right _ (List.mem_of_getElem? (i := 618) (by decide +kernel))) (by decide +kernel))
theorem lc_X8_220 : LC RX8 220 mX8_digestOfScript := Or.inl (WT_mem (List.mem_append_right _ (List.mem_of_getElem? (i := 619) (by decide +kernel))) (by decide +kernel))
theorem lc_X8_245 : LC RX8 245 mX8_step := Or.inl (WT_mem (List.mem_append_right _ (List.mem_of_getElem? (i := 623) (by decide +kernel))) (by decide +kernel))
theorem lc_X8_225 : LC RX8 225 mX8_cost := Or.inl (WT_mem (List.mem_append_right _ (List.mem_of_getElem? (i := 624) (by decide +kernel))) (by decide +kernel))
theorem lc_X8_228 : LC RX8 228 mX8_all := Or.inl (WT_mem (List.mem_append_right _ (List.mem_of_getElem? (i := 625) (by decide +kernel))) (by decide +kernel))
theorem lc_X8_232 : LC RX8 232 mX8_racked := Or.inl (WT_mem (List.mem_append_right _ (List.mem_of_getElem? (i := 626) (by decide +kernel))) (by decide +kernel))
theorem lc_X8_238 : LC RX8 238 mX8_count := Or.inl (WT_mem (List.mem_append_right _ (List.mem_of_getElem? (i := 627) (by decide +kernel))) (by decide +kernel))
theorem lc_L_17 : LC RL 17 mX9_letter := Or.inl (WT_mem (List.mem_append_right _ (List.mem_of_getElem? (i := 734) (by decide +kernel))) (by decide +kernel))
theorem lc_X9_73 : LC RX9 73 mX9_in := Or.inl (WT_mem (List.mem_append_right _ (List.mem_of_getElem? (i := 739) (by decide +kernel))) (by decide +kernel))
theorem lc_L_22 : LC RL 22 mX9_blank := Or.inl (WT_mem (List.mem_append_right _ (List.mem_of_getElem? (i := 742) (by decide +kernel))) (by decide +kernel))
theorem lc_L_26 : LC RL 26 mX9_fault := Or.inl (WT_mem (List.mem_append_right _ (List.mem_of_getElem? (i := 746) (by decide +kernel))) (by decide +kernel))
theorem lc_X9_98 : LC RX9 98 mX9_faultOf := Or.inl (WT_mem (List.mem_append_right _ (List.mem_of_getElem? (i := 750) (by decide +kernel))) (by decide +kernel))
theorem lc_X9_94 : LC RX9 94 mX9_isGood := Or.inl (WT_mem (List.mem_append_right _ (List.mem_of_getElem? (i := 754) (by decide +kernel))) (by decide +kernel))
theorem lc_L_30 : LC RL 30 mX9_text := Or.inl (WT_mem (List.mem_append_right _ (List.mem_of_getElem? (i := 760) (by decide +kernel))) (by decide +kernel))
theorem lc_X9_102 : LC RX9 102 mX9_copy := Or.inl (WT_mem (List.mem_append_right _ (List.mem_of_getElem? (i := 764) (by decide +kernel))) (by decide +kernel))
theorem lc_X9_112 : LC RX9 112 mX9_layScript := Or.inl (WT_mem (List.mem_append_right _ (List.mem_of_getElem? (i := 767) (by decide +kernel))) (by decide +kernel))
theorem lc_X9_209 : LC RX9 209 mX9_layKept := Or.inl (WT_mem (List.mem_append_right _ (List.mem_of_getElem? (i := 771) (by decide +kernel))) (by decide +kernel))
theorem lc_X9_219 : LC RX9 219 mX9_matchAll := Or.inl (WT_mem (List.mem_append_right _ (List.mem_of_getElem? (i := 775) (by decide +kernel))) (by decide +kernel))
theorem lc_X9_136 : LC RX9 136 mX9_addPart := Or.inl (WT_mem (List.mem_append_right _ (List.mem_of_getElem? (i := 779) (by decide +kernel))) (by decide +kernel))
theorem lc_X9_154 : LC RX9 154 mX9_matchPart := Or.inl (WT_mem (List.mem_append_right _ (List.mem_of_getElem? (i := 783) (by decide +kernel))) (by decide +kernel))
theorem lc_X9_125 : LC RX9 125 mX9_isSame := Or.inl (WT_mem (List.mem_append_right _ (List.mem_of_getElem? (i := 787) (by decide +kernel))) (by decide +kernel))
theorem lc_X9_129 : LC RX9 129 mX9_keep := Or.inl (WT_mem (List.mem_append_right _ (List.mem_of_getElem? (i := 791) (by decide +kernel))) (by decide +kernel))
theorem lc_X9_143 : LC RX9 143 mX9_layAnchors := Or.inl (WT_mem (List.mem_append_right _ (List.mem_of_getElem? (i := 795) (by decide +kernel))) (by decide +kernel))
theorem lc_X9_121 : LC RX9 121 mX9_timesIn := Or.inl (WT_mem (List.mem_append_right _ (List.mem_of_getElem? (i := 799) (by decide +kernel))) (by decide +kernel))
theorem lc_X9_147 : LC RX9 147 mX9_matchAnchors := Or.inl (WT_mem (List.mem_append_right _ (List.mem_of_getElem? (i := 803) (by decide +kernel))) (by decide +kernel))
theorem lc_X9_151 : LC RX9 151 mX9_matchRows := Or.inl (WT_mem (List.mem_append_right _ (List.mem_of_getElem? (i := 807) (by decide +kernel))) (by decide +kernel))
theorem lc_X9_140 : LC RX9 140 mX9_layCan := Or.inl (WT_mem (List.mem_append_right _ (List.mem_of_getElem? (i := 811) (by decide +kernel))) (by decide +kernel))
theorem lc_X9_222 : LC RX9 222 mX9_slideAll := Or.inl (WT_mem (List.mem_append_right _ (List.mem_of_getElem? (i := 815) (by decide +kernel))) (by decide +kernel))
theorem lc_X9_168 : LC RX9 168 mX9_countBack := Or.inl (WT_mem (List.mem_append_right _ (List.mem_of_getElem? (i := 819) (by decide +kernel))) (by decide +kernel))
theorem lc_X9_172 : LC RX9 172 mX9_slideGap := Or.inl (WT_mem (List.mem_append_right _ (List.mem_of_getElem? (i := 823) (by decide +kernel))) (by decide +kernel))
theorem lc_X9_160 : LC RX9 160 mX9_isSliding := Or.inl (WT_mem (List.mem_append_right _ (List.mem_of_getElem? (i := 827) (by decide +kernel))) (by decide +kernel))
theorem lc_X9_164 : LC RX9 164 mX9_slide := Or.inl (WT_mem (List.mem_append_right _ (List.mem_of_getElem? (i := 831) (by decide +kernel))) (by decide +kernel))
theorem lc_X9_212 : LC RX9 212 mX9_countGap := Or.inl (WT_mem (List.mem_append_right _ (List.mem_of_getElem? (i := 835) (by decide +kernel))) (by decide +kernel))
theorem lc_X9_215 : LC RX9 215 mX9_layGap := Or.inl (WT_mem (List.mem_append_right _ (List.mem_of_getElem? (i := 839) (by decide +kernel))) (by decide +kernel))
theorem lc_X9_200 : LC RX9 200 mX9_changeBy := Or.inl (WT_mem (List.mem_append_right _ (List.mem_of_getElem? (i := 843) (by decide +kernel))) (by decide +kernel))
theorem lc_X9_184 : LC RX9 184 mX9_alike := Or.inl (WT_mem (List.mem_append_right _ (List.mem_of_getElem? (i := 847) (by decide +kernel))) (by decide +kernel))
theorem lc_X9_177 : LC RX9 177 mX9_lettersOf := Or.inl (WT_mem (List.mem_append_right _ (List.mem_of_getElem? (i := 851) (by decide +kernel))) (by decide +kernel))
theorem lc_X9_181 : LC RX9 181 mX9_letterOf := Or.inl (WT_mem (List.mem_append_right _ (List.mem_of_getElem? (i := 854) (by decide +kernel))) (by decide +kernel))
theorem lc_X9_206 : LC RX9 206 mX9_addStep := Or.inl (WT_mem (List.mem_append_right _ (List.mem_of_getElem? (i := 857) (by decide +kernel))) (by decide +kernel))
theorem lc_X9_194 : LC RX9 194 mX9_likeBits := Or.inl (WT_mem (List.mem_append_right _ (List.mem_of_getElem? (i := 861) (by decide +kernel))) (by decide +kernel))
theorem lc_X9_187 : LC RX9 187 mX9_bitsOf := Or.inl (WT_mem (List.mem_append_right _ (List.mem_of_getElem? (i := 866) (by decide +kernel))) (by decide +kernel))
theorem lc_L_48 : LC RL 48 mX9_like := Or.inl (WT_mem (List.mem_append_right _ (List.mem_of_getElem? (i := 870) (by decide +kernel))) (by decide +kernel))
theorem lc_X9_191 : LC RX9 191 mX9_isLine := Or.inl (WT_mem (List.mem_append_right _ (List.mem_of_getElem? (i := 874) (by decide +kernel))) (by decide +kernel))
theorem lc_X9_115 : LC RX9 115 mX9_isSide := Or.inl (WT_mem (List.mem_append_right _ (List.mem_of_getElem? (i := 878) (by decide +kernel))) (by decide +kernel))
theorem lc_L_40 : LC RL 40 mX9_step := Or.inl (WT_mem (List.mem_append_right _ (List.mem_of_getElem? (i := 881) (by decide +kernel))) (by decide +kernel))
theorem lc_X9_225 : LC RX9 225 mX9_isStep := Or.inl (WT_mem (List.mem_append_right _ (List.mem_of_getElem? (i := 885) (by decide +kernel))) (by decide +kernel))
theorem lc_L_44 : LC RL 44 mX9_letters := Or.inl (WT_mem (List.mem_append_right _ (List.mem_of_getElem? (i := 890) (by decide +kernel))) (by decide +kernel))
theorem lc_X9_230 : LC RX9 230 mX9_lettersBy := Or.inl (WT_mem (List.mem_append_right _ (List.mem_of_getElem? (i := 894) (by decide +kernel))) (by decide +kernel))
theorem lc_L_35 : LC RL 35 mX9_line := Or.inl (WT_mem (List.mem_append_right _ (List.mem_of_getElem? (i := 898) (by decide +kernel))) (by decide +kernel))
theorem lc_X9_233 : LC RX9 233 mX9_tellLine := Or.inl (WT_mem (List.mem_append_right _ (List.mem_of_getElem? (i := 902) (by decide +kernel))) (by decide +kernel))
theorem lc_L_52 : LC RL 52 mX9_rack := Or.inl (WT_mem (List.mem_append_right _ (List.mem_of_getElem? (i := 906) (by decide +kernel))) (by decide +kernel))
theorem lc_X9_236 : LC RX9 236 mX9_rackedOf := Or.inl (WT_mem (List.mem_append_right _ (List.mem_of_getElem? (i := 910) (by decide +kernel))) (by decide +kernel))
theorem lc_X9_239 : LC RX9 239 mX9_isOf := Or.inl (WT_mem (List.mem_append_right _ (List.mem_of_getElem? (i := 914) (by decide +kernel))) (by decide +kernel))
theorem lc_L_56 : LC RL 56 mX9_racked := Or.inl (WT_mem (List.mem_append_right _ (List.mem_of_getElem? (i := 917) (by decide +kernel))) (by decide +kernel))
theorem lc_L_60 : LC RL 60 mX9_put := Or.inl (WT_mem (List.mem_append_right _ (List.mem_of_getElem? (i := 921) (by decide +kernel))) (by decide +kernel))
theorem lc_X9_243 : LC RX9 243 mX9_isLetters := Or.inl (WT_mem (List.mem_append_right _ (List.mem_of_getElem? (i := 925) (by decide +kernel))) (by decide +kernel))
theorem lc_X9_246 : LC RX9 246 mX9_insert := Or.inl (WT_mem (List.mem_append_right _ (List.mem_of_getElem? (i := 929) (by decide +kernel))) (by decide +kernel))
theorem lc_L_64 : LC RL 64 mX9_take := Or.inl (WT_mem (List.mem_append_right _ (List.mem_of_getElem? (i := 933) (by decide +kernel))) (by decide +kernel))
theorem lc_X9_249 : LC RX9 249 mX9_remove := Or.inl (WT_mem (List.mem_append_right _ (List.mem_of_getElem? (i := 937) (by decide +kernel))) (by decide +kernel))
theorem lc_L_68 : LC RL 68 mX9_swap := Or.inl (WT_mem (List.mem_append_right _ (List.mem_of_getElem? (i := 941) (by decide +kernel))) (by decide +kernel))
theorem lc_L_72 : LC RL 72 mX9_turn := Or.inl (WT_mem (List.mem_append_right _ (List.mem_of_getElem? (i := 945) (by decide +kernel))) (by decide +kernel))
theorem lc_L_76 : LC RL 76 mX9_cost := Or.inl (WT_mem (List.mem_append_right _ (List.mem_of_getElem? (i := 949) (by decide +kernel))) (by decide +kernel))
theorem lc_X9_258 : LC RX9 258 mX9_costOf := Or.inl (WT_mem (List.mem_append_right _ (List.mem_of_getElem? (i := 953) (by decide +kernel))) (by decide +kernel))
theorem lc_X9_255 : LC RX9 255 mX9_costNow := Or.inl (WT_mem (List.mem_append_right _ (List.mem_of_getElem? (i := 957) (by decide +kernel))) (by decide +kernel))
theorem lc_X9_252 : LC RX9 252 mX9_keptMany := Or.inl (WT_mem (List.mem_append_right _ (List.mem_of_getElem? (i := 961) (by decide +kernel))) (by decide +kernel))
theorem lc_L_80 : LC RL 80 mX9_best := Or.inl (WT_mem (List.mem_append_right _ (List.mem_of_getElem? (i := 965) (by decide +kernel))) (by decide +kernel))
theorem lc_X9_261 : LC RX9 261 mX9_bestOf := Or.inl (WT_mem (List.mem_append_right _ (List.mem_of_getElem? (i := 969) (by decide +kernel))) (by decide +kernel))
theorem lc_L_85 : LC RL 85 mX9_all := Or.inl (WT_mem (List.mem_append_right _ (List.mem_of_getElem? (i := 973) (by decide +kernel))) (by decide +kernel))
theorem lc_X9_264 : LC RX9 264 mX9_allOf := Or.inl (WT_mem (List.mem_append_right _ (List.mem_of_getElem? (i := 977) (by decide +kernel))) (by decide +kernel))
theorem lc_L_89 : LC RL 89 mX9_drawn := Or.inl (WT_mem (List.mem_append_right _ (List.mem_of_getElem? (i := 982) (by decide +kernel))) (by decide +kernel))
theorem lc_X9_282 : LC RX9 282 mX9_draw := Or.inl (WT_mem (List.mem_append_right _ (List.mem_of_getElem? (i := 987) (by decide +kernel))) (by decide +kernel))
theorem lc_L_93 : LC RL 93 mX9_image := Or.inl (WT_mem (List.mem_append_right _ (List.mem_of_getElem? (i := 995) (by decide +kernel))) (by decide +kernel))
theorem lc_L_97 : LC RL 97 mX9_restore := Or.inl (WT_mem (List.mem_append_right _ (List.mem_of_getElem? (i := 999) (by decide +kernel))) (by decide +kernel))
theorem lc_L_101 : LC RL 101 mX9_count := Or.inl (WT_mem (List.mem_append_right _ (List.mem_of_getElem? (i := 1003) (by decide +kernel))) (by decide +kernel))
theorem lc_X9_291 : LC RX9 291 mX9_countOf := Or.inl (WT_mem (List.mem_append_right _ (List.mem_of_getElem? (i := 1007) (by decide +kernel))) (by decide +kernel))
theorem lc_X9_285 : LC RX9 285 mX9_stepsOf := Or.inl (WT_mem (List.mem_append_right _ (List.mem_of_getElem? (i := 1011) (by decide +kernel))) (by decide +kernel))
theorem lc_X9_288 : LC RX9 288 mX9_rackedAll := Or.inl (WT_mem (List.mem_append_right _ (List.mem_of_getElem? (i := 1015) (by decide +kernel))) (by decide +kernel))
theorem lc_L_105 : LC RL 105 mX9_digest := Or.inl (WT_mem (List.mem_append_right _ (List.mem_of_getElem? (i := 1019) (by decide +kernel))) (by decide +kernel))
theorem lc_X9_300 : LC RX9 300 mX9_say := Or.inl (WT_mem (List.mem_append_right _ (List.mem_of_getElem? (i := 1024) (by decide +kernel))) (by decide +kernel))
theorem lc_X9_306 : LC RX9 306 mX9_sayText := Or.inl (WT_mem (List.mem_append_right _ (List.mem_of_getElem? (i := 1029) (by decide +kernel))) (by decide +kernel))
theorem st_max : Cond.static Lib.Math.max.name ∈ WT := WT_mem (List.mem_append_right _ (List.mem_of_getElem? (i := 357) (by decide +kernel))) (by decide +kernel)
theorem co_max : Cond.code Lib.Math.max.name Lib.Math.max.code 2 (some .int) ∈ WT := WT_mem (List.mem_append_right _ (List.mem_of_getElem? (i := 358) (by decide +kernel))) (by decide +kernel)
theorem st_min : Cond.static Lib.Math.min.name ∈ WT := WT_mem (List.mem_append_right _ (List.mem_of_getElem? (i := 405) (by decide +kernel))) (by decide +kernel)
theorem co_min : Cond.code Lib.Math.min.name Lib.Math.min.code 2 (some .int) ∈ WT := WT_mem (List.mem_append_right _ (List.mem_of_getElem? (i := 406) (by decide +kernel))) (by decide +kernel)
theorem in_Math : Cond.initialized "java/lang/Math" ∈ WT := WT_mem (List.mem_append_right _ (List.mem_of_getElem? (i := 11) (by decide +kernel))) (by decide +kernel)
theorem in_Sys : Cond.initialized "java/lang/System" ∈ WT := WT_mem (List.mem_append_right _ (List.mem_of_getElem? (i := 12) (by decide +kernel))) (by decide +kernel)
theorem na_copy : Cond.native arraycopyName ∈ WT := WT_mem (List.mem_append_right _ (List.mem_of_getElem? (i := 561) (by decide +kernel))) (by decide +kernel)
theorem st_copy : Cond.static arraycopyName ∈ WT := WT_mem (List.mem_append_right _ (List.mem_of_getElem? (i := 560) (by decide +kernel))) (by decide +kernel)
theorem cv_X0_most : CV mX0_most 6 := ⟨⟨WT_mem (List.mem_append_right _ (List.mem_of_getElem? (i := 370) (by decide +kernel))) (by decide +kernel), WT_mem (List.mem_append_right _ (List.mem_of_getElem? (i := 6) (by decide +kernel))) (by decide +kernel), by decide +kernel, by decide⟩, WT_mem (List.mem_append_right _ (List.mem_of_getElem? (i := 369) (by decide +kernel))) (by decide +kernel), WT_mem (List.mem_append_left _ (List.mem_of_getElem? (i := 25) (by decide +kernel))) (by decide +kernel)⟩
theorem cv_X1_commonLetters : CV mX1_commonLetters 2 := ⟨⟨WT_mem (List.mem_append_right _ (List.mem_of_getElem? (i := 417) (by decide +kernel))) (by decide +kernel), WT_mem (List.mem_append_right _ (List.mem_of_getElem? (i := 7) (by decide +kernel))) (by decide +kernel), by decide +kernel, by decide⟩, WT_mem (List.mem_append_right _ (List.mem_of_getElem? (i := 416) (by decide +kernel))) (by decide +kernel), WT_mem (List.mem_append_left _ (List.mem_of_getElem? (i := 35) (by decide +kernel))) (by decide +kernel)⟩
theorem cv_X1_fraction : CV mX1_fraction 2 := ⟨⟨WT_mem (List.mem_append_right _ (List.mem_of_getElem? (i := 410) (by decide +kernel))) (by decide +kernel), WT_mem (List.mem_append_right _ (List.mem_of_getElem? (i := 7) (by decide +kernel))) (by decide +kernel), by decide +kernel, by decide⟩, WT_mem (List.mem_append_right _ (List.mem_of_getElem? (i := 409) (by decide +kernel))) (by decide +kernel), WT_mem (List.mem_append_left _ (List.mem_of_getElem? (i := 34) (by decide +kernel))) (by decide +kernel)⟩
theorem cv_X2_compare : CV mX2_compare 0 := ⟨⟨WT_mem (List.mem_append_right _ (List.mem_of_getElem? (i := 327) (by decide +kernel))) (by decide +kernel), WT_mem (List.mem_append_right _ (List.mem_of_getElem? (i := 4) (by decide +kernel))) (by decide +kernel), by decide +kernel, by decide⟩, WT_mem (List.mem_append_right _ (List.mem_of_getElem? (i := 326) (by decide +kernel))) (by decide +kernel), WT_mem (List.mem_append_left _ (List.mem_of_getElem? (i := 15) (by decide +kernel))) (by decide +kernel)⟩
theorem cv_X2_kept : CV mX2_kept 0 := ⟨⟨WT_mem (List.mem_append_right _ (List.mem_of_getElem? (i := 542) (by decide +kernel))) (by decide +kernel), WT_mem (List.mem_append_right _ (List.mem_of_getElem? (i := 4) (by decide +kernel))) (by decide +kernel), by decide +kernel, by decide⟩, WT_mem (List.mem_append_right _ (List.mem_of_getElem? (i := 541) (by decide +kernel))) (by decide +kernel), WT_mem (List.mem_append_left _ (List.mem_of_getElem? (i := 48) (by decide +kernel))) (by decide +kernel)⟩
theorem cv_X2_notKept : CV mX2_notKept 0 := ⟨⟨WT_mem (List.mem_append_right _ (List.mem_of_getElem? (i := 537) (by decide +kernel))) (by decide +kernel), WT_mem (List.mem_append_right _ (List.mem_of_getElem? (i := 4) (by decide +kernel))) (by decide +kernel), by decide +kernel, by decide⟩, WT_mem (List.mem_append_right _ (List.mem_of_getElem? (i := 536) (by decide +kernel))) (by decide +kernel), WT_mem (List.mem_append_left _ (List.mem_of_getElem? (i := 47) (by decide +kernel))) (by decide +kernel)⟩
theorem cv_X2_shortest : CV mX2_shortest 0 := ⟨⟨WT_mem (List.mem_append_right _ (List.mem_of_getElem? (i := 546) (by decide +kernel))) (by decide +kernel), WT_mem (List.mem_append_right _ (List.mem_of_getElem? (i := 4) (by decide +kernel))) (by decide +kernel), by decide +kernel, by decide⟩, WT_mem (List.mem_append_right _ (List.mem_of_getElem? (i := 545) (by decide +kernel))) (by decide +kernel), WT_mem (List.mem_append_left _ (List.mem_of_getElem? (i := 49) (by decide +kernel))) (by decide +kernel)⟩
theorem cv_X2_keep : CV mX2_keep 2 := ⟨⟨WT_mem (List.mem_append_right _ (List.mem_of_getElem? (i := 339) (by decide +kernel))) (by decide +kernel), WT_mem (List.mem_append_right _ (List.mem_of_getElem? (i := 4) (by decide +kernel))) (by decide +kernel), by decide +kernel, by decide⟩, WT_mem (List.mem_append_right _ (List.mem_of_getElem? (i := 338) (by decide +kernel))) (by decide +kernel), WT_mem (List.mem_append_left _ (List.mem_of_getElem? (i := 18) (by decide +kernel))) (by decide +kernel)⟩
theorem cv_X2_same : CV mX2_same 2 := ⟨⟨WT_mem (List.mem_append_right _ (List.mem_of_getElem? (i := 335) (by decide +kernel))) (by decide +kernel), WT_mem (List.mem_append_right _ (List.mem_of_getElem? (i := 4) (by decide +kernel))) (by decide +kernel), by decide +kernel, by decide⟩, WT_mem (List.mem_append_right _ (List.mem_of_getElem? (i := 334) (by decide +kernel))) (by decide +kernel), WT_mem (List.mem_append_left _ (List.mem_of_getElem? (i := 17) (by decide +kernel))) (by decide +kernel)⟩
theorem cv_X2_matchParts : CV mX2_matchParts 5 := ⟨⟨WT_mem (List.mem_append_right _ (List.mem_of_getElem? (i := 331) (by decide +kernel))) (by decide +kernel), WT_mem (List.mem_append_right _ (List.mem_of_getElem? (i := 4) (by decide +kernel))) (by decide +kernel), by decide +kernel, by decide⟩, WT_mem (List.mem_append_right _ (List.mem_of_getElem? (i := 330) (by decide +kernel))) (by decide +kernel), WT_mem (List.mem_append_left _ (List.mem_of_getElem? (i := 16) (by decide +kernel))) (by decide +kernel)⟩
theorem cv_X2_findAnchors : CV mX2_findAnchors 4 := ⟨⟨WT_mem (List.mem_append_right _ (List.mem_of_getElem? (i := 343) (by decide +kernel))) (by decide +kernel), WT_mem (List.mem_append_right _ (List.mem_of_getElem? (i := 4) (by decide +kernel))) (by decide +kernel), by decide +kernel, by decide⟩, WT_mem (List.mem_append_right _ (List.mem_of_getElem? (i := 342) (by decide +kernel))) (by decide +kernel), WT_mem (List.mem_append_left _ (List.mem_of_getElem? (i := 19) (by decide +kernel))) (by decide +kernel)⟩
theorem cv_X2_onlyPlaceOf : CV mX2_onlyPlaceOf 4 := ⟨⟨WT_mem (List.mem_append_right _ (List.mem_of_getElem? (i := 347) (by decide +kernel))) (by decide +kernel), WT_mem (List.mem_append_right _ (List.mem_of_getElem? (i := 4) (by decide +kernel))) (by decide +kernel), by decide +kernel, by decide⟩, WT_mem (List.mem_append_right _ (List.mem_of_getElem? (i := 346) (by decide +kernel))) (by decide +kernel), WT_mem (List.mem_append_left _ (List.mem_of_getElem? (i := 20) (by decide +kernel))) (by decide +kernel)⟩
theorem cv_X2_keepLongestChain : CV mX2_keepLongestChain 2 := ⟨⟨WT_mem (List.mem_append_right _ (List.mem_of_getElem? (i := 351) (by decide +kernel))) (by decide +kernel), WT_mem (List.mem_append_right _ (List.mem_of_getElem? (i := 4) (by decide +kernel))) (by decide +kernel), by decide +kernel, by decide⟩, WT_mem (List.mem_append_right _ (List.mem_of_getElem? (i := 350) (by decide +kernel))) (by decide +kernel), WT_mem (List.mem_append_left _ (List.mem_of_getElem? (i := 21) (by decide +kernel))) (by decide +kernel)⟩
theorem cv_X2_measureChains : CV mX2_measureChains 2 := ⟨⟨WT_mem (List.mem_append_right _ (List.mem_of_getElem? (i := 355) (by decide +kernel))) (by decide +kernel), WT_mem (List.mem_append_right _ (List.mem_of_getElem? (i := 4) (by decide +kernel))) (by decide +kernel), by decide +kernel, by decide⟩, WT_mem (List.mem_append_right _ (List.mem_of_getElem? (i := 354) (by decide +kernel))) (by decide +kernel), WT_mem (List.mem_append_left _ (List.mem_of_getElem? (i := 22) (by decide +kernel))) (by decide +kernel)⟩
theorem cv_X2_matchBetweenAnchors : CV mX2_matchBetweenAnchors 5 := ⟨⟨WT_mem (List.mem_append_right _ (List.mem_of_getElem? (i := 362) (by decide +kernel))) (by decide +kernel), WT_mem (List.mem_append_right _ (List.mem_of_getElem? (i := 4) (by decide +kernel))) (by decide +kernel), by decide +kernel, by decide⟩, WT_mem (List.mem_append_right _ (List.mem_of_getElem? (i := 361) (by decide +kernel))) (by decide +kernel), WT_mem (List.mem_append_left _ (List.mem_of_getElem? (i := 23) (by decide +kernel))) (by decide +kernel)⟩
theorem cv_X2_keepMost : CV mX2_keepMost 4 := ⟨⟨WT_mem (List.mem_append_right _ (List.mem_of_getElem? (i := 366) (by decide +kernel))) (by decide +kernel), WT_mem (List.mem_append_right _ (List.mem_of_getElem? (i := 4) (by decide +kernel))) (by decide +kernel), by decide +kernel, by decide⟩, WT_mem (List.mem_append_right _ (List.mem_of_getElem? (i := 365) (by decide +kernel))) (by decide +kernel), WT_mem (List.mem_append_left _ (List.mem_of_getElem? (i := 24) (by decide +kernel))) (by decide +kernel)⟩
theorem cv_X2_slideGaps : CV mX2_slideGaps 0 := ⟨⟨WT_mem (List.mem_append_right _ (List.mem_of_getElem? (i := 375) (by decide +kernel))) (by decide +kernel), WT_mem (List.mem_append_right _ (List.mem_of_getElem? (i := 4) (by decide +kernel))) (by decide +kernel), by decide +kernel, by decide⟩, WT_mem (List.mem_append_right _ (List.mem_of_getElem? (i := 374) (by decide +kernel))) (by decide +kernel), WT_mem (List.mem_append_left _ (List.mem_of_getElem? (i := 26) (by decide +kernel))) (by decide +kernel)⟩
theorem cv_X2_widenGap : CV mX2_widenGap 0 := ⟨⟨WT_mem (List.mem_append_right _ (List.mem_of_getElem? (i := 379) (by decide +kernel))) (by decide +kernel), WT_mem (List.mem_append_right _ (List.mem_of_getElem? (i := 4) (by decide +kernel))) (by decide +kernel), by decide +kernel, by decide⟩, WT_mem (List.mem_append_right _ (List.mem_of_getElem? (i := 378) (by decide +kernel))) (by decide +kernel), WT_mem (List.mem_append_left _ (List.mem_of_getElem? (i := 27) (by decide +kernel))) (by decide +kernel)⟩
theorem cv_X2_slideGap : CV mX2_slideGap 0 := ⟨⟨WT_mem (List.mem_append_right _ (List.mem_of_getElem? (i := 383) (by decide +kernel))) (by decide +kernel), WT_mem (List.mem_append_right _ (List.mem_of_getElem? (i := 4) (by decide +kernel))) (by decide +kernel), by decide +kernel, by decide⟩, WT_mem (List.mem_append_right _ (List.mem_of_getElem? (i := 382) (by decide +kernel))) (by decide +kernel), WT_mem (List.mem_append_left _ (List.mem_of_getElem? (i := 28) (by decide +kernel))) (by decide +kernel)⟩
theorem cv_X2_maySlide : CV mX2_maySlide 1 := ⟨⟨WT_mem (List.mem_append_right _ (List.mem_of_getElem? (i := 387) (by decide +kernel))) (by decide +kernel), WT_mem (List.mem_append_right _ (List.mem_of_getElem? (i := 4) (by decide +kernel))) (by decide +kernel), by decide +kernel, by decide⟩, WT_mem (List.mem_append_right _ (List.mem_of_getElem? (i := 386) (by decide +kernel))) (by decide +kernel), WT_mem (List.mem_append_left _ (List.mem_of_getElem? (i := 29) (by decide +kernel))) (by decide +kernel)⟩
theorem cv_X2_slideOnce : CV mX2_slideOnce 1 := ⟨⟨WT_mem (List.mem_append_right _ (List.mem_of_getElem? (i := 391) (by decide +kernel))) (by decide +kernel), WT_mem (List.mem_append_right _ (List.mem_of_getElem? (i := 4) (by decide +kernel))) (by decide +kernel), by decide +kernel, by decide⟩, WT_mem (List.mem_append_right _ (List.mem_of_getElem? (i := 390) (by decide +kernel))) (by decide +kernel), WT_mem (List.mem_append_left _ (List.mem_of_getElem? (i := 30) (by decide +kernel))) (by decide +kernel)⟩
theorem cv_X3_append : CV mX3_append 1 := ⟨⟨WT_mem (List.mem_append_right _ (List.mem_of_getElem? (i := 247) (by decide +kernel))) (by decide +kernel), WT_mem (List.mem_append_right _ (List.mem_of_getElem? (i := 2) (by decide +kernel))) (by decide +kernel), by decide +kernel, by decide⟩, WT_mem (List.mem_append_right _ (List.mem_of_getElem? (i := 246) (by decide +kernel))) (by decide +kernel), WT_mem (List.mem_append_left _ (List.mem_of_getElem? (i := 0) (by decide +kernel))) (by decide +kernel)⟩
theorem cv_X3_firstFault : CV mX3_firstFault 0 := ⟨⟨WT_mem (List.mem_append_right _ (List.mem_of_getElem? (i := 259) (by decide +kernel))) (by decide +kernel), WT_mem (List.mem_append_right _ (List.mem_of_getElem? (i := 2) (by decide +kernel))) (by decide +kernel), by decide +kernel, by decide⟩, WT_mem (List.mem_append_right _ (List.mem_of_getElem? (i := 258) (by decide +kernel))) (by decide +kernel), WT_mem (List.mem_append_left _ (List.mem_of_getElem? (i := 1) (by decide +kernel))) (by decide +kernel)⟩
theorem cv_X3_isText : CV mX3_isText 0 := ⟨⟨WT_mem (List.mem_append_right _ (List.mem_of_getElem? (i := 294) (by decide +kernel))) (by decide +kernel), WT_mem (List.mem_append_right _ (List.mem_of_getElem? (i := 2) (by decide +kernel))) (by decide +kernel), by decide +kernel, by decide⟩, WT_mem (List.mem_append_right _ (List.mem_of_getElem? (i := 293) (by decide +kernel))) (by decide +kernel), WT_mem (List.mem_append_left _ (List.mem_of_getElem? (i := 8) (by decide +kernel))) (by decide +kernel)⟩
theorem cv_X3_readInto : CV mX3_readInto 1 := ⟨⟨WT_mem (List.mem_append_right _ (List.mem_of_getElem? (i := 303) (by decide +kernel))) (by decide +kernel), WT_mem (List.mem_append_right _ (List.mem_of_getElem? (i := 2) (by decide +kernel))) (by decide +kernel), by decide +kernel, by decide⟩, WT_mem (List.mem_append_right _ (List.mem_of_getElem? (i := 302) (by decide +kernel))) (by decide +kernel), WT_mem (List.mem_append_left _ (List.mem_of_getElem? (i := 10) (by decide +kernel))) (by decide +kernel)⟩
theorem cv_X4_clear : CV mX4_clear 0 := ⟨⟨WT_mem (List.mem_append_right _ (List.mem_of_getElem? (i := 445) (by decide +kernel))) (by decide +kernel), WT_mem (List.mem_append_right _ (List.mem_of_getElem? (i := 9) (by decide +kernel))) (by decide +kernel), by decide +kernel, by decide⟩, WT_mem (List.mem_append_right _ (List.mem_of_getElem? (i := 444) (by decide +kernel))) (by decide +kernel), WT_mem (List.mem_append_left _ (List.mem_of_getElem? (i := 39) (by decide +kernel))) (by decide +kernel)⟩
theorem cv_X4_append : CV mX4_append 2 := ⟨⟨WT_mem (List.mem_append_right _ (List.mem_of_getElem? (i := 490) (by decide +kernel))) (by decide +kernel), WT_mem (List.mem_append_right _ (List.mem_of_getElem? (i := 9) (by decide +kernel))) (by decide +kernel), by decide +kernel, by decide⟩, WT_mem (List.mem_append_right _ (List.mem_of_getElem? (i := 489) (by decide +kernel))) (by decide +kernel), WT_mem (List.mem_append_left _ (List.mem_of_getElem? (i := 43) (by decide +kernel))) (by decide +kernel)⟩
theorem cv_X4_total : CV mX4_total 0 := ⟨⟨WT_mem (List.mem_append_right _ (List.mem_of_getElem? (i := 607) (by decide +kernel))) (by decide +kernel), WT_mem (List.mem_append_right _ (List.mem_of_getElem? (i := 9) (by decide +kernel))) (by decide +kernel), by decide +kernel, by decide⟩, WT_mem (List.mem_append_right _ (List.mem_of_getElem? (i := 606) (by decide +kernel))) (by decide +kernel), WT_mem (List.mem_append_left _ (List.mem_of_getElem? (i := 54) (by decide +kernel))) (by decide +kernel)⟩
theorem cv_X5_begin : CV mX5_begin 0 := ⟨⟨WT_mem (List.mem_append_right _ (List.mem_of_getElem? (i := 263) (by decide +kernel))) (by decide +kernel), WT_mem (List.mem_append_right _ (List.mem_of_getElem? (i := 3) (by decide +kernel))) (by decide +kernel), by decide +kernel, by decide⟩, WT_mem (List.mem_append_right _ (List.mem_of_getElem? (i := 262) (by decide +kernel))) (by decide +kernel), WT_mem (List.mem_append_left _ (List.mem_of_getElem? (i := 2) (by decide +kernel))) (by decide +kernel)⟩
theorem cv_X5_takes : CV mX5_takes 1 := ⟨⟨WT_mem (List.mem_append_right _ (List.mem_of_getElem? (i := 267) (by decide +kernel))) (by decide +kernel), WT_mem (List.mem_append_right _ (List.mem_of_getElem? (i := 3) (by decide +kernel))) (by decide +kernel), by decide +kernel, by decide⟩, WT_mem (List.mem_append_right _ (List.mem_of_getElem? (i := 266) (by decide +kernel))) (by decide +kernel), WT_mem (List.mem_append_left _ (List.mem_of_getElem? (i := 3) (by decide +kernel))) (by decide +kernel)⟩
theorem cv_X5_takesLetter : CV mX5_takesLetter 0 := ⟨⟨WT_mem (List.mem_append_right _ (List.mem_of_getElem? (i := 274) (by decide +kernel))) (by decide +kernel), WT_mem (List.mem_append_right _ (List.mem_of_getElem? (i := 3) (by decide +kernel))) (by decide +kernel), by decide +kernel, by decide⟩, WT_mem (List.mem_append_right _ (List.mem_of_getElem? (i := 273) (by decide +kernel))) (by decide +kernel), WT_mem (List.mem_append_left _ (List.mem_of_getElem? (i := 4) (by decide +kernel))) (by decide +kernel)⟩
theorem cv_X5_takesComma : CV mX5_takesComma 0 := ⟨⟨WT_mem (List.mem_append_right _ (List.mem_of_getElem? (i := 278) (by decide +kernel))) (by decide +kernel), WT_mem (List.mem_append_right _ (List.mem_of_getElem? (i := 3) (by decide +kernel))) (by decide +kernel), by decide +kernel, by decide⟩, WT_mem (List.mem_append_right _ (List.mem_of_getElem? (i := 277) (by decide +kernel))) (by decide +kernel), WT_mem (List.mem_append_left _ (List.mem_of_getElem? (i := 5) (by decide +kernel))) (by decide +kernel)⟩
theorem cv_X5_takesSemicolon : CV mX5_takesSemicolon 0 := ⟨⟨WT_mem (List.mem_append_right _ (List.mem_of_getElem? (i := 282) (by decide +kernel))) (by decide +kernel), WT_mem (List.mem_append_right _ (List.mem_of_getElem? (i := 3) (by decide +kernel))) (by decide +kernel), by decide +kernel, by decide⟩, WT_mem (List.mem_append_right _ (List.mem_of_getElem? (i := 281) (by decide +kernel))) (by decide +kernel), WT_mem (List.mem_append_left _ (List.mem_of_getElem? (i := 6) (by decide +kernel))) (by decide +kernel)⟩
theorem cv_X5_mayEnd : CV mX5_mayEnd 0 := ⟨⟨WT_mem (List.mem_append_right _ (List.mem_of_getElem? (i := 299) (by decide +kernel))) (by decide +kernel), WT_mem (List.mem_append_right _ (List.mem_of_getElem? (i := 3) (by decide +kernel))) (by decide +kernel), by decide +kernel, by decide⟩, WT_mem (List.mem_append_right _ (List.mem_of_getElem? (i := 298) (by decide +kernel))) (by decide +kernel), WT_mem (List.mem_append_left _ (List.mem_of_getElem? (i := 9) (by decide +kernel))) (by decide +kernel)⟩
theorem cv_X5_sideMayEnd : CV mX5_sideMayEnd 0 := ⟨⟨WT_mem (List.mem_append_right _ (List.mem_of_getElem? (i := 286) (by decide +kernel))) (by decide +kernel), WT_mem (List.mem_append_right _ (List.mem_of_getElem? (i := 3) (by decide +kernel))) (by decide +kernel), by decide +kernel, by decide⟩, WT_mem (List.mem_append_right _ (List.mem_of_getElem? (i := 285) (by decide +kernel))) (by decide +kernel), WT_mem (List.mem_append_left _ (List.mem_of_getElem? (i := 7) (by decide +kernel))) (by decide +kernel)⟩
theorem cv_X6_has : CV mX6_has 1 := ⟨⟨WT_mem (List.mem_append_right _ (List.mem_of_getElem? (i := 466) (by decide +kernel))) (by decide +kernel), WT_mem (List.mem_append_right _ (List.mem_of_getElem? (i := 8) (by decide +kernel))) (by decide +kernel), by decide +kernel, by decide⟩, WT_mem (List.mem_append_right _ (List.mem_of_getElem? (i := 465) (by decide +kernel))) (by decide +kernel), WT_mem (List.mem_append_left _ (List.mem_of_getElem? (i := 42) (by decide +kernel))) (by decide +kernel)⟩
theorem cv_X6_howManyOf : CV mX6_howManyOf 1 := ⟨⟨WT_mem (List.mem_append_right _ (List.mem_of_getElem? (i := 603) (by decide +kernel))) (by decide +kernel), WT_mem (List.mem_append_right _ (List.mem_of_getElem? (i := 8) (by decide +kernel))) (by decide +kernel), by decide +kernel, by decide⟩, WT_mem (List.mem_append_right _ (List.mem_of_getElem? (i := 602) (by decide +kernel))) (by decide +kernel), WT_mem (List.mem_append_left _ (List.mem_of_getElem? (i := 53) (by decide +kernel))) (by decide +kernel)⟩
theorem cv_X6_build : CV mX6_build 2 := ⟨⟨WT_mem (List.mem_append_right _ (List.mem_of_getElem? (i := 395) (by decide +kernel))) (by decide +kernel), WT_mem (List.mem_append_right _ (List.mem_of_getElem? (i := 8) (by decide +kernel))) (by decide +kernel), by decide +kernel, by decide⟩, WT_mem (List.mem_append_right _ (List.mem_of_getElem? (i := 394) (by decide +kernel))) (by decide +kernel), WT_mem (List.mem_append_left _ (List.mem_of_getElem? (i := 31) (by decide +kernel))) (by decide +kernel)⟩
theorem cv_X6_nextKept : CV mX6_nextKept 3 := ⟨⟨WT_mem (List.mem_append_right _ (List.mem_of_getElem? (i := 399) (by decide +kernel))) (by decide +kernel), WT_mem (List.mem_append_right _ (List.mem_of_getElem? (i := 8) (by decide +kernel))) (by decide +kernel), by decide +kernel, by decide⟩, WT_mem (List.mem_append_right _ (List.mem_of_getElem? (i := 398) (by decide +kernel))) (by decide +kernel), WT_mem (List.mem_append_left _ (List.mem_of_getElem? (i := 32) (by decide +kernel))) (by decide +kernel)⟩
theorem cv_X6_findChanged : CV mX6_findChanged 6 := ⟨⟨WT_mem (List.mem_append_right _ (List.mem_of_getElem? (i := 403) (by decide +kernel))) (by decide +kernel), WT_mem (List.mem_append_right _ (List.mem_of_getElem? (i := 8) (by decide +kernel))) (by decide +kernel), by decide +kernel, by decide⟩, WT_mem (List.mem_append_right _ (List.mem_of_getElem? (i := 402) (by decide +kernel))) (by decide +kernel), WT_mem (List.mem_append_left _ (List.mem_of_getElem? (i := 33) (by decide +kernel))) (by decide +kernel)⟩
theorem cv_X6_addDropped : CV mX6_addDropped 2 := ⟨⟨WT_mem (List.mem_append_right _ (List.mem_of_getElem? (i := 427) (by decide +kernel))) (by decide +kernel), WT_mem (List.mem_append_right _ (List.mem_of_getElem? (i := 8) (by decide +kernel))) (by decide +kernel), by decide +kernel, by decide⟩, WT_mem (List.mem_append_right _ (List.mem_of_getElem? (i := 426) (by decide +kernel))) (by decide +kernel), WT_mem (List.mem_append_left _ (List.mem_of_getElem? (i := 36) (by decide +kernel))) (by decide +kernel)⟩
theorem cv_X6_addAdded : CV mX6_addAdded 4 := ⟨⟨WT_mem (List.mem_append_right _ (List.mem_of_getElem? (i := 440) (by decide +kernel))) (by decide +kernel), WT_mem (List.mem_append_right _ (List.mem_of_getElem? (i := 8) (by decide +kernel))) (by decide +kernel), by decide +kernel, by decide⟩, WT_mem (List.mem_append_right _ (List.mem_of_getElem? (i := 439) (by decide +kernel))) (by decide +kernel), WT_mem (List.mem_append_left _ (List.mem_of_getElem? (i := 38) (by decide +kernel))) (by decide +kernel)⟩
theorem cv_X6_addStep : CV mX6_addStep 5 := ⟨⟨WT_mem (List.mem_append_right _ (List.mem_of_getElem? (i := 431) (by decide +kernel))) (by decide +kernel), WT_mem (List.mem_append_right _ (List.mem_of_getElem? (i := 8) (by decide +kernel))) (by decide +kernel), by decide +kernel, by decide⟩, WT_mem (List.mem_append_right _ (List.mem_of_getElem? (i := 430) (by decide +kernel))) (by decide +kernel), WT_mem (List.mem_append_left _ (List.mem_of_getElem? (i := 37) (by decide +kernel))) (by decide +kernel)⟩
theorem cv_X7_has : CV mX7_has 2 := ⟨⟨WT_mem (List.mem_append_right _ (List.mem_of_getElem? (i := 457) (by decide +kernel))) (by decide +kernel), WT_mem (List.mem_append_right _ (List.mem_of_getElem? (i := 5) (by decide +kernel))) (by decide +kernel), by decide +kernel, by decide⟩, WT_mem (List.mem_append_right _ (List.mem_of_getElem? (i := 456) (by decide +kernel))) (by decide +kernel), WT_mem (List.mem_append_left _ (List.mem_of_getElem? (i := 41) (by decide +kernel))) (by decide +kernel)⟩
theorem cv_X7_total : CV mX7_total 0 := ⟨⟨WT_mem (List.mem_append_right _ (List.mem_of_getElem? (i := 449) (by decide +kernel))) (by decide +kernel), WT_mem (List.mem_append_right _ (List.mem_of_getElem? (i := 5) (by decide +kernel))) (by decide +kernel), by decide +kernel, by decide⟩, WT_mem (List.mem_append_right _ (List.mem_of_getElem? (i := 448) (by decide +kernel))) (by decide +kernel), WT_mem (List.mem_append_left _ (List.mem_of_getElem? (i := 40) (by decide +kernel))) (by decide +kernel)⟩
theorem cv_X7_clear : CV mX7_clear 0 := ⟨⟨WT_mem (List.mem_append_right _ (List.mem_of_getElem? (i := 307) (by decide +kernel))) (by decide +kernel), WT_mem (List.mem_append_right _ (List.mem_of_getElem? (i := 5) (by decide +kernel))) (by decide +kernel), by decide +kernel, by decide⟩, WT_mem (List.mem_append_right _ (List.mem_of_getElem? (i := 306) (by decide +kernel))) (by decide +kernel), WT_mem (List.mem_append_left _ (List.mem_of_getElem? (i := 11) (by decide +kernel))) (by decide +kernel)⟩
theorem cv_X7_copyFrom : CV mX7_copyFrom 1 := ⟨⟨WT_mem (List.mem_append_right _ (List.mem_of_getElem? (i := 558) (by decide +kernel))) (by decide +kernel), WT_mem (List.mem_append_right _ (List.mem_of_getElem? (i := 5) (by decide +kernel))) (by decide +kernel), by decide +kernel, by decide⟩, WT_mem (List.mem_append_right _ (List.mem_of_getElem? (i := 557) (by decide +kernel))) (by decide +kernel), WT_mem (List.mem_append_left _ (List.mem_of_getElem? (i := 51) (by decide +kernel))) (by decide +kernel)⟩
theorem cv_X7_appendLine : CV mX7_appendLine 2 := ⟨⟨WT_mem (List.mem_append_right _ (List.mem_of_getElem? (i := 312) (by decide +kernel))) (by decide +kernel), WT_mem (List.mem_append_right _ (List.mem_of_getElem? (i := 5) (by decide +kernel))) (by decide +kernel), by decide +kernel, by decide⟩, WT_mem (List.mem_append_right _ (List.mem_of_getElem? (i := 311) (by decide +kernel))) (by decide +kernel), WT_mem (List.mem_append_left _ (List.mem_of_getElem? (i := 12) (by decide +kernel))) (by decide +kernel)⟩
theorem cv_X7_insert : CV mX7_insert 3 := ⟨⟨WT_mem (List.mem_append_right _ (List.mem_of_getElem? (i := 316) (by decide +kernel))) (by decide +kernel), WT_mem (List.mem_append_right _ (List.mem_of_getElem? (i := 5) (by decide +kernel))) (by decide +kernel), by decide +kernel, by decide⟩, WT_mem (List.mem_append_right _ (List.mem_of_getElem? (i := 315) (by decide +kernel))) (by decide +kernel), WT_mem (List.mem_append_left _ (List.mem_of_getElem? (i := 13) (by decide +kernel))) (by decide +kernel)⟩
theorem cv_X7_remove : CV mX7_remove 2 := ⟨⟨WT_mem (List.mem_append_right _ (List.mem_of_getElem? (i := 512) (by decide +kernel))) (by decide +kernel), WT_mem (List.mem_append_right _ (List.mem_of_getElem? (i := 5) (by decide +kernel))) (by decide +kernel), by decide +kernel, by decide⟩, WT_mem (List.mem_append_right _ (List.mem_of_getElem? (i := 511) (by decide +kernel))) (by decide +kernel), WT_mem (List.mem_append_left _ (List.mem_of_getElem? (i := 44) (by decide +kernel))) (by decide +kernel)⟩
theorem cv_X7_exchangeLines : CV mX7_exchangeLines 3 := ⟨⟨WT_mem (List.mem_append_right _ (List.mem_of_getElem? (i := 521) (by decide +kernel))) (by decide +kernel), WT_mem (List.mem_append_right _ (List.mem_of_getElem? (i := 5) (by decide +kernel))) (by decide +kernel), by decide +kernel, by decide⟩, WT_mem (List.mem_append_right _ (List.mem_of_getElem? (i := 520) (by decide +kernel))) (by decide +kernel), WT_mem (List.mem_append_left _ (List.mem_of_getElem? (i := 45) (by decide +kernel))) (by decide +kernel)⟩
theorem cv_X7_exchangeSides : CV mX7_exchangeSides 0 := ⟨⟨WT_mem (List.mem_append_right _ (List.mem_of_getElem? (i := 529) (by decide +kernel))) (by decide +kernel), WT_mem (List.mem_append_right _ (List.mem_of_getElem? (i := 5) (by decide +kernel))) (by decide +kernel), by decide +kernel, by decide⟩, WT_mem (List.mem_append_right _ (List.mem_of_getElem? (i := 528) (by decide +kernel))) (by decide +kernel), WT_mem (List.mem_append_left _ (List.mem_of_getElem? (i := 46) (by decide +kernel))) (by decide +kernel)⟩
theorem cv_X8_letter : CV mX8_letter 1 := ⟨⟨WT_mem (List.mem_append_right _ (List.mem_of_getElem? (i := 243) (by decide +kernel))) (by decide +kernel), WT_mem (List.mem_append_right _ (List.mem_of_getElem? (i := 1) (by decide +kernel))) (by decide +kernel), by decide +kernel, by decide⟩, WT_mem (List.mem_append_right _ (List.mem_of_getElem? (i := 241) (by decide +kernel))) (by decide +kernel), WT_mem (List.mem_append_right _ (List.mem_of_getElem? (i := 242) (by decide +kernel))) (by decide +kernel)⟩
theorem cv_X8_blank : CV mX8_blank 0 := ⟨⟨WT_mem (List.mem_append_right _ (List.mem_of_getElem? (i := 251) (by decide +kernel))) (by decide +kernel), WT_mem (List.mem_append_right _ (List.mem_of_getElem? (i := 1) (by decide +kernel))) (by decide +kernel), by decide +kernel, by decide⟩, WT_mem (List.mem_append_right _ (List.mem_of_getElem? (i := 249) (by decide +kernel))) (by decide +kernel), WT_mem (List.mem_append_right _ (List.mem_of_getElem? (i := 250) (by decide +kernel))) (by decide +kernel)⟩
theorem cv_X8_fault : CV mX8_fault 0 := ⟨⟨WT_mem (List.mem_append_right _ (List.mem_of_getElem? (i := 255) (by decide +kernel))) (by decide +kernel), WT_mem (List.mem_append_right _ (List.mem_of_getElem? (i := 1) (by decide +kernel))) (by decide +kernel), by decide +kernel, by decide⟩, WT_mem (List.mem_append_right _ (List.mem_of_getElem? (i := 253) (by decide +kernel))) (by decide +kernel), WT_mem (List.mem_append_right _ (List.mem_of_getElem? (i := 254) (by decide +kernel))) (by decide +kernel)⟩
theorem cv_X8_text : CV mX8_text 0 := ⟨⟨WT_mem (List.mem_append_right _ (List.mem_of_getElem? (i := 290) (by decide +kernel))) (by decide +kernel), WT_mem (List.mem_append_right _ (List.mem_of_getElem? (i := 1) (by decide +kernel))) (by decide +kernel), by decide +kernel, by decide⟩, WT_mem (List.mem_append_right _ (List.mem_of_getElem? (i := 288) (by decide +kernel))) (by decide +kernel), WT_mem (List.mem_append_right _ (List.mem_of_getElem? (i := 289) (by decide +kernel))) (by decide +kernel)⟩
theorem cv_X8_line : CV mX8_line 3 := ⟨⟨WT_mem (List.mem_append_right _ (List.mem_of_getElem? (i := 453) (by decide +kernel))) (by decide +kernel), WT_mem (List.mem_append_right _ (List.mem_of_getElem? (i := 1) (by decide +kernel))) (by decide +kernel), by decide +kernel, by decide⟩, WT_mem (List.mem_append_right _ (List.mem_of_getElem? (i := 451) (by decide +kernel))) (by decide +kernel), WT_mem (List.mem_append_right _ (List.mem_of_getElem? (i := 452) (by decide +kernel))) (by decide +kernel)⟩
theorem cv_X8_step : CV mX8_step 2 := ⟨⟨WT_mem (List.mem_append_right _ (List.mem_of_getElem? (i := 462) (by decide +kernel))) (by decide +kernel), WT_mem (List.mem_append_right _ (List.mem_of_getElem? (i := 1) (by decide +kernel))) (by decide +kernel), by decide +kernel, by decide⟩, WT_mem (List.mem_append_right _ (List.mem_of_getElem? (i := 460) (by decide +kernel))) (by decide +kernel), WT_mem (List.mem_append_right _ (List.mem_of_getElem? (i := 461) (by decide +kernel))) (by decide +kernel)⟩
theorem cv_X8_letters : CV mX8_letters 2 := ⟨⟨WT_mem (List.mem_append_right _ (List.mem_of_getElem? (i := 470) (by decide +kernel))) (by decide +kernel), WT_mem (List.mem_append_right _ (List.mem_of_getElem? (i := 1) (by decide +kernel))) (by decide +kernel), by decide +kernel, by decide⟩, WT_mem (List.mem_append_right _ (List.mem_of_getElem? (i := 468) (by decide +kernel))) (by decide +kernel), WT_mem (List.mem_append_right _ (List.mem_of_getElem? (i := 469) (by decide +kernel))) (by decide +kernel)⟩
theorem cv_X8_like : CV mX8_like 2 := ⟨⟨WT_mem (List.mem_append_right _ (List.mem_of_getElem? (i := 480) (by decide +kernel))) (by decide +kernel), WT_mem (List.mem_append_right _ (List.mem_of_getElem? (i := 1) (by decide +kernel))) (by decide +kernel), by decide +kernel, by decide⟩, WT_mem (List.mem_append_right _ (List.mem_of_getElem? (i := 478) (by decide +kernel))) (by decide +kernel), WT_mem (List.mem_append_right _ (List.mem_of_getElem? (i := 479) (by decide +kernel))) (by decide +kernel)⟩
theorem cv_X8_rack : CV mX8_rack 2 := ⟨⟨WT_mem (List.mem_append_right _ (List.mem_of_getElem? (i := 486) (by decide +kernel))) (by decide +kernel), WT_mem (List.mem_append_right _ (List.mem_of_getElem? (i := 1) (by decide +kernel))) (by decide +kernel), by decide +kernel, by decide⟩, WT_mem (List.mem_append_right _ (List.mem_of_getElem? (i := 484) (by decide +kernel))) (by decide +kernel), WT_mem (List.mem_append_right _ (List.mem_of_getElem? (i := 485) (by decide +kernel))) (by decide +kernel)⟩
theorem cv_X8_racked : CV mX8_racked 2 := ⟨⟨WT_mem (List.mem_append_right _ (List.mem_of_getElem? (i := 494) (by decide +kernel))) (by decide +kernel), WT_mem (List.mem_append_right _ (List.mem_of_getElem? (i := 1) (by decide +kernel))) (by decide +kernel), by decide +kernel, by decide⟩, WT_mem (List.mem_append_right _ (List.mem_of_getElem? (i := 492) (by decide +kernel))) (by decide +kernel), WT_mem (List.mem_append_right _ (List.mem_of_getElem? (i := 493) (by decide +kernel))) (by decide +kernel)⟩
theorem cv_X8_put : CV mX8_put 3 := ⟨⟨WT_mem (List.mem_append_right _ (List.mem_of_getElem? (i := 498) (by decide +kernel))) (by decide +kernel), WT_mem (List.mem_append_right _ (List.mem_of_getElem? (i := 1) (by decide +kernel))) (by decide +kernel), by decide +kernel, by decide⟩, WT_mem (List.mem_append_right _ (List.mem_of_getElem? (i := 496) (by decide +kernel))) (by decide +kernel), WT_mem (List.mem_append_right _ (List.mem_of_getElem? (i := 497) (by decide +kernel))) (by decide +kernel)⟩
theorem cv_X8_take : CV mX8_take 2 := ⟨⟨WT_mem (List.mem_append_right _ (List.mem_of_getElem? (i := 508) (by decide +kernel))) (by decide +kernel), WT_mem (List.mem_append_right _ (List.mem_of_getElem? (i := 1) (by decide +kernel))) (by decide +kernel), by decide +kernel, by decide⟩, WT_mem (List.mem_append_right _ (List.mem_of_getElem? (i := 506) (by decide +kernel))) (by decide +kernel), WT_mem (List.mem_append_right _ (List.mem_of_getElem? (i := 507) (by decide +kernel))) (by decide +kernel)⟩
theorem cv_X8_swap : CV mX8_swap 3 := ⟨⟨WT_mem (List.mem_append_right _ (List.mem_of_getElem? (i := 517) (by decide +kernel))) (by decide +kernel), WT_mem (List.mem_append_right _ (List.mem_of_getElem? (i := 1) (by decide +kernel))) (by decide +kernel), by decide +kernel, by decide⟩, WT_mem (List.mem_append_right _ (List.mem_of_getElem? (i := 515) (by decide +kernel))) (by decide +kernel), WT_mem (List.mem_append_right _ (List.mem_of_getElem? (i := 516) (by decide +kernel))) (by decide +kernel)⟩
theorem cv_X8_turn : CV mX8_turn 0 := ⟨⟨WT_mem (List.mem_append_right _ (List.mem_of_getElem? (i := 525) (by decide +kernel))) (by decide +kernel), WT_mem (List.mem_append_right _ (List.mem_of_getElem? (i := 1) (by decide +kernel))) (by decide +kernel), by decide +kernel, by decide⟩, WT_mem (List.mem_append_right _ (List.mem_of_getElem? (i := 523) (by decide +kernel))) (by decide +kernel), WT_mem (List.mem_append_right _ (List.mem_of_getElem? (i := 524) (by decide +kernel))) (by decide +kernel)⟩
theorem cv_X8_cost : CV mX8_cost 1 := ⟨⟨WT_mem (List.mem_append_right _ (List.mem_of_getElem? (i := 533) (by decide +kernel))) (by decide +kernel), WT_mem (List.mem_append_right _ (List.mem_of_getElem? (i := 1) (by decide +kernel))) (by decide +kernel), by decide +kernel, by decide⟩, WT_mem (List.mem_append_right _ (List.mem_of_getElem? (i := 531) (by decide +kernel))) (by decide +kernel), WT_mem (List.mem_append_right _ (List.mem_of_getElem? (i := 532) (by decide +kernel))) (by decide +kernel)⟩
theorem cv_X8_best : CV mX8_best 1 := ⟨⟨WT_mem (List.mem_append_right _ (List.mem_of_getElem? (i := 550) (by decide +kernel))) (by decide +kernel), WT_mem (List.mem_append_right _ (List.mem_of_getElem? (i := 1) (by decide +kernel))) (by decide +kernel), by decide +kernel, by decide⟩, WT_mem (List.mem_append_right _ (List.mem_of_getElem? (i := 548) (by decide +kernel))) (by decide +kernel), WT_mem (List.mem_append_right _ (List.mem_of_getElem? (i := 549) (by decide +kernel))) (by decide +kernel)⟩
theorem cv_X8_all : CV mX8_all 0 := ⟨⟨WT_mem (List.mem_append_right _ (List.mem_of_getElem? (i := 565) (by decide +kernel))) (by decide +kernel), WT_mem (List.mem_append_right _ (List.mem_of_getElem? (i := 1) (by decide +kernel))) (by decide +kernel), by decide +kernel, by decide⟩, WT_mem (List.mem_append_right _ (List.mem_of_getElem? (i := 563) (by decide +kernel))) (by decide +kernel), WT_mem (List.mem_append_right _ (List.mem_of_getElem? (i := 564) (by decide +kernel))) (by decide +kernel)⟩
theorem cv_X8_drawn : CV mX8_drawn 3 := ⟨⟨WT_mem (List.mem_append_right _ (List.mem_of_getElem? (i := 578) (by decide +kernel))) (by decide +kernel), WT_mem (List.mem_append_right _ (List.mem_of_getElem? (i := 1) (by decide +kernel))) (by decide +kernel), by decide +kernel, by decide⟩, WT_mem (List.mem_append_right _ (List.mem_of_getElem? (i := 576) (by decide +kernel))) (by decide +kernel), WT_mem (List.mem_append_right _ (List.mem_of_getElem? (i := 577) (by decide +kernel))) (by decide +kernel)⟩
theorem cv_X8_image : CV mX8_image 0 := ⟨⟨WT_mem (List.mem_append_right _ (List.mem_of_getElem? (i := 591) (by decide +kernel))) (by decide +kernel), WT_mem (List.mem_append_right _ (List.mem_of_getElem? (i := 1) (by decide +kernel))) (by decide +kernel), by decide +kernel, by decide⟩, WT_mem (List.mem_append_right _ (List.mem_of_getElem? (i := 589) (by decide +kernel))) (by decide +kernel), WT_mem (List.mem_append_right _ (List.mem_of_getElem? (i := 590) (by decide +kernel))) (by decide +kernel)⟩
theorem cv_X8_restore : CV mX8_restore 0 := ⟨⟨WT_mem (List.mem_append_right _ (List.mem_of_getElem? (i := 595) (by decide +kernel))) (by decide +kernel), WT_mem (List.mem_append_right _ (List.mem_of_getElem? (i := 1) (by decide +kernel))) (by decide +kernel), by decide +kernel, by decide⟩, WT_mem (List.mem_append_right _ (List.mem_of_getElem? (i := 593) (by decide +kernel))) (by decide +kernel), WT_mem (List.mem_append_right _ (List.mem_of_getElem? (i := 594) (by decide +kernel))) (by decide +kernel)⟩
theorem cv_X8_count : CV mX8_count 1 := ⟨⟨WT_mem (List.mem_append_right _ (List.mem_of_getElem? (i := 599) (by decide +kernel))) (by decide +kernel), WT_mem (List.mem_append_right _ (List.mem_of_getElem? (i := 1) (by decide +kernel))) (by decide +kernel), by decide +kernel, by decide⟩, WT_mem (List.mem_append_right _ (List.mem_of_getElem? (i := 597) (by decide +kernel))) (by decide +kernel), WT_mem (List.mem_append_right _ (List.mem_of_getElem? (i := 598) (by decide +kernel))) (by decide +kernel)⟩
theorem cv_X8_digest : CV mX8_digest 0 := ⟨⟨WT_mem (List.mem_append_right _ (List.mem_of_getElem? (i := 611) (by decide +kernel))) (by decide +kernel), WT_mem (List.mem_append_right _ (List.mem_of_getElem? (i := 1) (by decide +kernel))) (by decide +kernel), by decide +kernel, by decide⟩, WT_mem (List.mem_append_right _ (List.mem_of_getElem? (i := 609) (by decide +kernel))) (by decide +kernel), WT_mem (List.mem_append_right _ (List.mem_of_getElem? (i := 610) (by decide +kernel))) (by decide +kernel)⟩
theorem cv_X8_digestOfLines : CV mX8_digestOfLines 1 := ⟨⟨WT_mem (List.mem_append_right _ (List.mem_of_getElem? (i := 616) (by decide +kernel))) (by decide +kernel), WT_mem (List.mem_append_right _ (List.mem_of_getElem? (i := 1) (by decide +kernel))) (by decide +kernel), by decide +kernel, by decide⟩, WT_mem (List.mem_append_right _ (List.mem_of_getElem? (i := 615) (by decide +kernel))) (by decide +kernel), WT_mem (List.mem_append_left _ (List.mem_of_getElem? (i := 55) (by decide +kernel))) (by decide +kernel)⟩
theorem cv_X8_digestOfScript : CV mX8_digestOfScript 1 := ⟨⟨WT_mem (List.mem_append_right _ (List.mem_of_getElem? (i := 622) (by decide +kernel))) (by decide +kernel), WT_mem (List.mem_append_right _ (List.mem_of_getElem? (i := 1) (by decide +kernel))) (by decide +kernel), by decide +kernel, by decide⟩, WT_mem (List.mem_append_right _ (List.mem_of_getElem? (i := 621) (by decide +kernel))) (by decide +kernel), WT_mem (List.mem_append_left _ (List.mem_of_getElem? (i := 56) (by decide +kernel))) (by decide +kernel)⟩
theorem cv_X8_compareAnew : CV mX8_compareAnew 0 := ⟨⟨WT_mem (List.mem_append_right _ (List.mem_of_getElem? (i := 323) (by decide +kernel))) (by decide +kernel), WT_mem (List.mem_append_right _ (List.mem_of_getElem? (i := 1) (by decide +kernel))) (by decide +kernel), by decide +kernel, by decide⟩, WT_mem (List.mem_append_right _ (List.mem_of_getElem? (i := 322) (by decide +kernel))) (by decide +kernel), WT_mem (List.mem_append_left _ (List.mem_of_getElem? (i := 14) (by decide +kernel))) (by decide +kernel)⟩
theorem cv_X8_costOfPutting : CV mX8_costOfPutting 2 := ⟨⟨WT_mem (List.mem_append_right _ (List.mem_of_getElem? (i := 554) (by decide +kernel))) (by decide +kernel), WT_mem (List.mem_append_right _ (List.mem_of_getElem? (i := 1) (by decide +kernel))) (by decide +kernel), by decide +kernel, by decide⟩, WT_mem (List.mem_append_right _ (List.mem_of_getElem? (i := 553) (by decide +kernel))) (by decide +kernel), WT_mem (List.mem_append_left _ (List.mem_of_getElem? (i := 50) (by decide +kernel))) (by decide +kernel)⟩
theorem cv_X8_drawTrial : CV mX8_drawTrial 1 := ⟨⟨WT_mem (List.mem_append_right _ (List.mem_of_getElem? (i := 582) (by decide +kernel))) (by decide +kernel), WT_mem (List.mem_append_right _ (List.mem_of_getElem? (i := 1) (by decide +kernel))) (by decide +kernel), by decide +kernel, by decide⟩, WT_mem (List.mem_append_right _ (List.mem_of_getElem? (i := 581) (by decide +kernel))) (by decide +kernel), WT_mem (List.mem_append_left _ (List.mem_of_getElem? (i := 52) (by decide +kernel))) (by decide +kernel)⟩
theorem cs_X8_isSide : CS mX8_isSide 1 := ⟨⟨WT_mem (List.mem_append_right _ (List.mem_of_getElem? (i := 319) (by decide +kernel))) (by decide +kernel), WT_mem (List.mem_append_right _ (List.mem_of_getElem? (i := 1) (by decide +kernel))) (by decide +kernel), by decide +kernel, by decide⟩, WT_mem (List.mem_append_right _ (List.mem_of_getElem? (i := 318) (by decide +kernel))) (by decide +kernel)⟩
theorem cs_X8_isLetter : CS mX8_isLetter 1 := ⟨⟨WT_mem (List.mem_append_right _ (List.mem_of_getElem? (i := 270) (by decide +kernel))) (by decide +kernel), WT_mem (List.mem_append_right _ (List.mem_of_getElem? (i := 1) (by decide +kernel))) (by decide +kernel), by decide +kernel, by decide⟩, WT_mem (List.mem_append_right _ (List.mem_of_getElem? (i := 269) (by decide +kernel))) (by decide +kernel)⟩
theorem cs_X8_isLine : CS mX8_isLine 1 := ⟨⟨WT_mem (List.mem_append_right _ (List.mem_of_getElem? (i := 502) (by decide +kernel))) (by decide +kernel), WT_mem (List.mem_append_right _ (List.mem_of_getElem? (i := 1) (by decide +kernel))) (by decide +kernel), by decide +kernel, by decide⟩, WT_mem (List.mem_append_right _ (List.mem_of_getElem? (i := 501) (by decide +kernel))) (by decide +kernel)⟩
theorem cs_X8_lettersIn : CS mX8_lettersIn 1 := ⟨⟨WT_mem (List.mem_append_right _ (List.mem_of_getElem? (i := 413) (by decide +kernel))) (by decide +kernel), WT_mem (List.mem_append_right _ (List.mem_of_getElem? (i := 1) (by decide +kernel))) (by decide +kernel), by decide +kernel, by decide⟩, WT_mem (List.mem_append_right _ (List.mem_of_getElem? (i := 412) (by decide +kernel))) (by decide +kernel)⟩
theorem cs_X8_codeAt : CS mX8_codeAt 2 := ⟨⟨WT_mem (List.mem_append_right _ (List.mem_of_getElem? (i := 420) (by decide +kernel))) (by decide +kernel), WT_mem (List.mem_append_right _ (List.mem_of_getElem? (i := 1) (by decide +kernel))) (by decide +kernel), by decide +kernel, by decide⟩, WT_mem (List.mem_append_right _ (List.mem_of_getElem? (i := 419) (by decide +kernel))) (by decide +kernel)⟩
theorem cs_X8_isOfKind : CS mX8_isOfKind 2 := ⟨⟨WT_mem (List.mem_append_right _ (List.mem_of_getElem? (i := 473) (by decide +kernel))) (by decide +kernel), WT_mem (List.mem_append_right _ (List.mem_of_getElem? (i := 1) (by decide +kernel))) (by decide +kernel), by decide +kernel, by decide⟩, WT_mem (List.mem_append_right _ (List.mem_of_getElem? (i := 472) (by decide +kernel))) (by decide +kernel)⟩
theorem cs_X8_singleBits : CS mX8_singleBits 1 := ⟨⟨WT_mem (List.mem_append_right _ (List.mem_of_getElem? (i := 434) (by decide +kernel))) (by decide +kernel), WT_mem (List.mem_append_right _ (List.mem_of_getElem? (i := 1) (by decide +kernel))) (by decide +kernel), by decide +kernel, by decide⟩, WT_mem (List.mem_append_right _ (List.mem_of_getElem? (i := 433) (by decide +kernel))) (by decide +kernel)⟩
theorem cs_X8_doubleBits : CS mX8_doubleBits 1 := ⟨⟨WT_mem (List.mem_append_right _ (List.mem_of_getElem? (i := 570) (by decide +kernel))) (by decide +kernel), WT_mem (List.mem_append_right _ (List.mem_of_getElem? (i := 1) (by decide +kernel))) (by decide +kernel), by decide +kernel, by decide⟩, WT_mem (List.mem_append_right _ (List.mem_of_getElem? (i := 569) (by decide +kernel))) (by decide +kernel)⟩
theorem cs_X9_in : CS mX9_in 3 := ⟨⟨WT_mem (List.mem_append_right _ (List.mem_of_getElem? (i := 741) (by decide +kernel))) (by decide +kernel), WT_mem (List.mem_append_right _ (List.mem_of_getElem? (i := 10) (by decide +kernel))) (by decide +kernel), by decide +kernel, by decide⟩, WT_mem (List.mem_append_right _ (List.mem_of_getElem? (i := 740) (by decide +kernel))) (by decide +kernel)⟩
theorem cs_X9_copy : CS mX9_copy 2 := ⟨⟨WT_mem (List.mem_append_right _ (List.mem_of_getElem? (i := 766) (by decide +kernel))) (by decide +kernel), WT_mem (List.mem_append_right _ (List.mem_of_getElem? (i := 10) (by decide +kernel))) (by decide +kernel), by decide +kernel, by decide⟩, WT_mem (List.mem_append_right _ (List.mem_of_getElem? (i := 765) (by decide +kernel))) (by decide +kernel)⟩
theorem cv_X9_letter : CV mX9_letter 1 := ⟨⟨WT_mem (List.mem_append_right _ (List.mem_of_getElem? (i := 737) (by decide +kernel))) (by decide +kernel), WT_mem (List.mem_append_right _ (List.mem_of_getElem? (i := 10) (by decide +kernel))) (by decide +kernel), by decide +kernel, by decide⟩, WT_mem (List.mem_append_right _ (List.mem_of_getElem? (i := 735) (by decide +kernel))) (by decide +kernel), WT_mem (List.mem_append_right _ (List.mem_of_getElem? (i := 736) (by decide +kernel))) (by decide +kernel)⟩
theorem cv_X9_blank : CV mX9_blank 0 := ⟨⟨WT_mem (List.mem_append_right _ (List.mem_of_getElem? (i := 745) (by decide +kernel))) (by decide +kernel), WT_mem (List.mem_append_right _ (List.mem_of_getElem? (i := 10) (by decide +kernel))) (by decide +kernel), by decide +kernel, by decide⟩, WT_mem (List.mem_append_right _ (List.mem_of_getElem? (i := 743) (by decide +kernel))) (by decide +kernel), WT_mem (List.mem_append_right _ (List.mem_of_getElem? (i := 744) (by decide +kernel))) (by decide +kernel)⟩
theorem cv_X9_isGood : CV mX9_isGood 1 := ⟨⟨WT_mem (List.mem_append_right _ (List.mem_of_getElem? (i := 757) (by decide +kernel))) (by decide +kernel), WT_mem (List.mem_append_right _ (List.mem_of_getElem? (i := 10) (by decide +kernel))) (by decide +kernel), by decide +kernel, by decide⟩, WT_mem (List.mem_append_right _ (List.mem_of_getElem? (i := 756) (by decide +kernel))) (by decide +kernel), WT_mem (List.mem_append_left _ (List.mem_of_getElem? (i := 58) (by decide +kernel))) (by decide +kernel)⟩
theorem cv_X9_faultOf : CV mX9_faultOf 0 := ⟨⟨WT_mem (List.mem_append_right _ (List.mem_of_getElem? (i := 753) (by decide +kernel))) (by decide +kernel), WT_mem (List.mem_append_right _ (List.mem_of_getElem? (i := 10) (by decide +kernel))) (by decide +kernel), by decide +kernel, by decide⟩, WT_mem (List.mem_append_right _ (List.mem_of_getElem? (i := 752) (by decide +kernel))) (by decide +kernel), WT_mem (List.mem_append_left _ (List.mem_of_getElem? (i := 57) (by decide +kernel))) (by decide +kernel)⟩
theorem cv_X9_fault : CV mX9_fault 0 := ⟨⟨WT_mem (List.mem_append_right _ (List.mem_of_getElem? (i := 749) (by decide +kernel))) (by decide +kernel), WT_mem (List.mem_append_right _ (List.mem_of_getElem? (i := 10) (by decide +kernel))) (by decide +kernel), by decide +kernel, by decide⟩, WT_mem (List.mem_append_right _ (List.mem_of_getElem? (i := 747) (by decide +kernel))) (by decide +kernel), WT_mem (List.mem_append_right _ (List.mem_of_getElem? (i := 748) (by decide +kernel))) (by decide +kernel)⟩
theorem cv_X9_text : CV mX9_text 0 := ⟨⟨WT_mem (List.mem_append_right _ (List.mem_of_getElem? (i := 763) (by decide +kernel))) (by decide +kernel), WT_mem (List.mem_append_right _ (List.mem_of_getElem? (i := 10) (by decide +kernel))) (by decide +kernel), by decide +kernel, by decide⟩, WT_mem (List.mem_append_right _ (List.mem_of_getElem? (i := 761) (by decide +kernel))) (by decide +kernel), WT_mem (List.mem_append_right _ (List.mem_of_getElem? (i := 762) (by decide +kernel))) (by decide +kernel)⟩
theorem cs_X9_isSide : CS mX9_isSide 1 := ⟨⟨WT_mem (List.mem_append_right _ (List.mem_of_getElem? (i := 880) (by decide +kernel))) (by decide +kernel), WT_mem (List.mem_append_right _ (List.mem_of_getElem? (i := 10) (by decide +kernel))) (by decide +kernel), by decide +kernel, by decide⟩, WT_mem (List.mem_append_right _ (List.mem_of_getElem? (i := 879) (by decide +kernel))) (by decide +kernel)⟩
theorem cv_X9_isLine : CV mX9_isLine 2 := ⟨⟨WT_mem (List.mem_append_right _ (List.mem_of_getElem? (i := 877) (by decide +kernel))) (by decide +kernel), WT_mem (List.mem_append_right _ (List.mem_of_getElem? (i := 10) (by decide +kernel))) (by decide +kernel), by decide +kernel, by decide⟩, WT_mem (List.mem_append_right _ (List.mem_of_getElem? (i := 876) (by decide +kernel))) (by decide +kernel), WT_mem (List.mem_append_left _ (List.mem_of_getElem? (i := 82) (by decide +kernel))) (by decide +kernel)⟩
theorem cv_X9_isSame : CV mX9_isSame 2 := ⟨⟨WT_mem (List.mem_append_right _ (List.mem_of_getElem? (i := 790) (by decide +kernel))) (by decide +kernel), WT_mem (List.mem_append_right _ (List.mem_of_getElem? (i := 10) (by decide +kernel))) (by decide +kernel), by decide +kernel, by decide⟩, WT_mem (List.mem_append_right _ (List.mem_of_getElem? (i := 789) (by decide +kernel))) (by decide +kernel), WT_mem (List.mem_append_left _ (List.mem_of_getElem? (i := 64) (by decide +kernel))) (by decide +kernel)⟩
theorem cv_X9_addPart : CV mX9_addPart 4 := ⟨⟨WT_mem (List.mem_append_right _ (List.mem_of_getElem? (i := 782) (by decide +kernel))) (by decide +kernel), WT_mem (List.mem_append_right _ (List.mem_of_getElem? (i := 10) (by decide +kernel))) (by decide +kernel), by decide +kernel, by decide⟩, WT_mem (List.mem_append_right _ (List.mem_of_getElem? (i := 781) (by decide +kernel))) (by decide +kernel), WT_mem (List.mem_append_left _ (List.mem_of_getElem? (i := 62) (by decide +kernel))) (by decide +kernel)⟩
theorem cv_X9_keep : CV mX9_keep 2 := ⟨⟨WT_mem (List.mem_append_right _ (List.mem_of_getElem? (i := 794) (by decide +kernel))) (by decide +kernel), WT_mem (List.mem_append_right _ (List.mem_of_getElem? (i := 10) (by decide +kernel))) (by decide +kernel), by decide +kernel, by decide⟩, WT_mem (List.mem_append_right _ (List.mem_of_getElem? (i := 793) (by decide +kernel))) (by decide +kernel), WT_mem (List.mem_append_left _ (List.mem_of_getElem? (i := 65) (by decide +kernel))) (by decide +kernel)⟩
theorem cv_X9_timesIn : CV mX9_timesIn 3 := ⟨⟨WT_mem (List.mem_append_right _ (List.mem_of_getElem? (i := 802) (by decide +kernel))) (by decide +kernel), WT_mem (List.mem_append_right _ (List.mem_of_getElem? (i := 10) (by decide +kernel))) (by decide +kernel), by decide +kernel, by decide⟩, WT_mem (List.mem_append_right _ (List.mem_of_getElem? (i := 801) (by decide +kernel))) (by decide +kernel), WT_mem (List.mem_append_left _ (List.mem_of_getElem? (i := 67) (by decide +kernel))) (by decide +kernel)⟩
theorem cv_X9_layAnchors : CV mX9_layAnchors 4 := ⟨⟨WT_mem (List.mem_append_right _ (List.mem_of_getElem? (i := 798) (by decide +kernel))) (by decide +kernel), WT_mem (List.mem_append_right _ (List.mem_of_getElem? (i := 10) (by decide +kernel))) (by decide +kernel), by decide +kernel, by decide⟩, WT_mem (List.mem_append_right _ (List.mem_of_getElem? (i := 797) (by decide +kernel))) (by decide +kernel), WT_mem (List.mem_append_left _ (List.mem_of_getElem? (i := 66) (by decide +kernel))) (by decide +kernel)⟩
theorem cv_X9_matchAnchors : CV mX9_matchAnchors 5 := ⟨⟨WT_mem (List.mem_append_right _ (List.mem_of_getElem? (i := 806) (by decide +kernel))) (by decide +kernel), WT_mem (List.mem_append_right _ (List.mem_of_getElem? (i := 10) (by decide +kernel))) (by decide +kernel), by decide +kernel, by decide⟩, WT_mem (List.mem_append_right _ (List.mem_of_getElem? (i := 805) (by decide +kernel))) (by decide +kernel), WT_mem (List.mem_append_left _ (List.mem_of_getElem? (i := 68) (by decide +kernel))) (by decide +kernel)⟩
theorem cv_X9_layCan : CV mX9_layCan 4 := ⟨⟨WT_mem (List.mem_append_right _ (List.mem_of_getElem? (i := 814) (by decide +kernel))) (by decide +kernel), WT_mem (List.mem_append_right _ (List.mem_of_getElem? (i := 10) (by decide +kernel))) (by decide +kernel), by decide +kernel, by decide⟩, WT_mem (List.mem_append_right _ (List.mem_of_getElem? (i := 813) (by decide +kernel))) (by decide +kernel), WT_mem (List.mem_append_left _ (List.mem_of_getElem? (i := 70) (by decide +kernel))) (by decide +kernel)⟩
theorem cv_X9_matchRows : CV mX9_matchRows 4 := ⟨⟨WT_mem (List.mem_append_right _ (List.mem_of_getElem? (i := 810) (by decide +kernel))) (by decide +kernel), WT_mem (List.mem_append_right _ (List.mem_of_getElem? (i := 10) (by decide +kernel))) (by decide +kernel), by decide +kernel, by decide⟩, WT_mem (List.mem_append_right _ (List.mem_of_getElem? (i := 809) (by decide +kernel))) (by decide +kernel), WT_mem (List.mem_append_left _ (List.mem_of_getElem? (i := 69) (by decide +kernel))) (by decide +kernel)⟩
theorem cv_X9_matchPart : CV mX9_matchPart 4 := ⟨⟨WT_mem (List.mem_append_right _ (List.mem_of_getElem? (i := 786) (by decide +kernel))) (by decide +kernel), WT_mem (List.mem_append_right _ (List.mem_of_getElem? (i := 10) (by decide +kernel))) (by decide +kernel), by decide +kernel, by decide⟩, WT_mem (List.mem_append_right _ (List.mem_of_getElem? (i := 785) (by decide +kernel))) (by decide +kernel), WT_mem (List.mem_append_left _ (List.mem_of_getElem? (i := 63) (by decide +kernel))) (by decide +kernel)⟩
theorem cv_X9_matchAll : CV mX9_matchAll 0 := ⟨⟨WT_mem (List.mem_append_right _ (List.mem_of_getElem? (i := 778) (by decide +kernel))) (by decide +kernel), WT_mem (List.mem_append_right _ (List.mem_of_getElem? (i := 10) (by decide +kernel))) (by decide +kernel), by decide +kernel, by decide⟩, WT_mem (List.mem_append_right _ (List.mem_of_getElem? (i := 777) (by decide +kernel))) (by decide +kernel), WT_mem (List.mem_append_left _ (List.mem_of_getElem? (i := 61) (by decide +kernel))) (by decide +kernel)⟩
theorem cv_X9_countGap : CV mX9_countGap 2 := ⟨⟨WT_mem (List.mem_append_right _ (List.mem_of_getElem? (i := 838) (by decide +kernel))) (by decide +kernel), WT_mem (List.mem_append_right _ (List.mem_of_getElem? (i := 10) (by decide +kernel))) (by decide +kernel), by decide +kernel, by decide⟩, WT_mem (List.mem_append_right _ (List.mem_of_getElem? (i := 837) (by decide +kernel))) (by decide +kernel), WT_mem (List.mem_append_left _ (List.mem_of_getElem? (i := 76) (by decide +kernel))) (by decide +kernel)⟩
theorem cv_X9_countBack : CV mX9_countBack 2 := ⟨⟨WT_mem (List.mem_append_right _ (List.mem_of_getElem? (i := 822) (by decide +kernel))) (by decide +kernel), WT_mem (List.mem_append_right _ (List.mem_of_getElem? (i := 10) (by decide +kernel))) (by decide +kernel), by decide +kernel, by decide⟩, WT_mem (List.mem_append_right _ (List.mem_of_getElem? (i := 821) (by decide +kernel))) (by decide +kernel), WT_mem (List.mem_append_left _ (List.mem_of_getElem? (i := 72) (by decide +kernel))) (by decide +kernel)⟩
theorem cv_X9_isSliding : CV mX9_isSliding 3 := ⟨⟨WT_mem (List.mem_append_right _ (List.mem_of_getElem? (i := 830) (by decide +kernel))) (by decide +kernel), WT_mem (List.mem_append_right _ (List.mem_of_getElem? (i := 10) (by decide +kernel))) (by decide +kernel), by decide +kernel, by decide⟩, WT_mem (List.mem_append_right _ (List.mem_of_getElem? (i := 829) (by decide +kernel))) (by decide +kernel), WT_mem (List.mem_append_left _ (List.mem_of_getElem? (i := 74) (by decide +kernel))) (by decide +kernel)⟩
theorem cv_X9_slide : CV mX9_slide 3 := ⟨⟨WT_mem (List.mem_append_right _ (List.mem_of_getElem? (i := 834) (by decide +kernel))) (by decide +kernel), WT_mem (List.mem_append_right _ (List.mem_of_getElem? (i := 10) (by decide +kernel))) (by decide +kernel), by decide +kernel, by decide⟩, WT_mem (List.mem_append_right _ (List.mem_of_getElem? (i := 833) (by decide +kernel))) (by decide +kernel), WT_mem (List.mem_append_left _ (List.mem_of_getElem? (i := 75) (by decide +kernel))) (by decide +kernel)⟩
theorem cv_X9_slideGap : CV mX9_slideGap 4 := ⟨⟨WT_mem (List.mem_append_right _ (List.mem_of_getElem? (i := 826) (by decide +kernel))) (by decide +kernel), WT_mem (List.mem_append_right _ (List.mem_of_getElem? (i := 10) (by decide +kernel))) (by decide +kernel), by decide +kernel, by decide⟩, WT_mem (List.mem_append_right _ (List.mem_of_getElem? (i := 825) (by decide +kernel))) (by decide +kernel), WT_mem (List.mem_append_left _ (List.mem_of_getElem? (i := 73) (by decide +kernel))) (by decide +kernel)⟩
theorem cv_X9_slideAll : CV mX9_slideAll 0 := ⟨⟨WT_mem (List.mem_append_right _ (List.mem_of_getElem? (i := 818) (by decide +kernel))) (by decide +kernel), WT_mem (List.mem_append_right _ (List.mem_of_getElem? (i := 10) (by decide +kernel))) (by decide +kernel), by decide +kernel, by decide⟩, WT_mem (List.mem_append_right _ (List.mem_of_getElem? (i := 817) (by decide +kernel))) (by decide +kernel), WT_mem (List.mem_append_left _ (List.mem_of_getElem? (i := 71) (by decide +kernel))) (by decide +kernel)⟩
theorem cs_X9_bitsOf : CS mX9_bitsOf 4 := ⟨⟨WT_mem (List.mem_append_right _ (List.mem_of_getElem? (i := 868) (by decide +kernel))) (by decide +kernel), WT_mem (List.mem_append_right _ (List.mem_of_getElem? (i := 10) (by decide +kernel))) (by decide +kernel), by decide +kernel, by decide⟩, WT_mem (List.mem_append_right _ (List.mem_of_getElem? (i := 867) (by decide +kernel))) (by decide +kernel)⟩
theorem cs_X9_lettersOf : CS mX9_lettersOf 1 := ⟨⟨WT_mem (List.mem_append_right _ (List.mem_of_getElem? (i := 853) (by decide +kernel))) (by decide +kernel), WT_mem (List.mem_append_right _ (List.mem_of_getElem? (i := 10) (by decide +kernel))) (by decide +kernel), by decide +kernel, by decide⟩, WT_mem (List.mem_append_right _ (List.mem_of_getElem? (i := 852) (by decide +kernel))) (by decide +kernel)⟩
theorem cs_X9_letterOf : CS mX9_letterOf 2 := ⟨⟨WT_mem (List.mem_append_right _ (List.mem_of_getElem? (i := 856) (by decide +kernel))) (by decide +kernel), WT_mem (List.mem_append_right _ (List.mem_of_getElem? (i := 10) (by decide +kernel))) (by decide +kernel), by decide +kernel, by decide⟩, WT_mem (List.mem_append_right _ (List.mem_of_getElem? (i := 855) (by decide +kernel))) (by decide +kernel)⟩
theorem cv_X9_alike : CV mX9_alike 2 := ⟨⟨WT_mem (List.mem_append_right _ (List.mem_of_getElem? (i := 850) (by decide +kernel))) (by decide +kernel), WT_mem (List.mem_append_right _ (List.mem_of_getElem? (i := 10) (by decide +kernel))) (by decide +kernel), by decide +kernel, by decide⟩, WT_mem (List.mem_append_right _ (List.mem_of_getElem? (i := 849) (by decide +kernel))) (by decide +kernel), WT_mem (List.mem_append_left _ (List.mem_of_getElem? (i := 79) (by decide +kernel))) (by decide +kernel)⟩
theorem cv_X9_likeBits : CV mX9_likeBits 2 := ⟨⟨WT_mem (List.mem_append_right _ (List.mem_of_getElem? (i := 864) (by decide +kernel))) (by decide +kernel), WT_mem (List.mem_append_right _ (List.mem_of_getElem? (i := 10) (by decide +kernel))) (by decide +kernel), by decide +kernel, by decide⟩, WT_mem (List.mem_append_right _ (List.mem_of_getElem? (i := 863) (by decide +kernel))) (by decide +kernel), WT_mem (List.mem_append_left _ (List.mem_of_getElem? (i := 81) (by decide +kernel))) (by decide +kernel)⟩
theorem cv_X9_like : CV mX9_like 2 := ⟨⟨WT_mem (List.mem_append_right _ (List.mem_of_getElem? (i := 873) (by decide +kernel))) (by decide +kernel), WT_mem (List.mem_append_right _ (List.mem_of_getElem? (i := 10) (by decide +kernel))) (by decide +kernel), by decide +kernel, by decide⟩, WT_mem (List.mem_append_right _ (List.mem_of_getElem? (i := 871) (by decide +kernel))) (by decide +kernel), WT_mem (List.mem_append_right _ (List.mem_of_getElem? (i := 872) (by decide +kernel))) (by decide +kernel)⟩
theorem cv_X9_addStep : CV mX9_addStep 5 := ⟨⟨WT_mem (List.mem_append_right _ (List.mem_of_getElem? (i := 860) (by decide +kernel))) (by decide +kernel), WT_mem (List.mem_append_right _ (List.mem_of_getElem? (i := 10) (by decide +kernel))) (by decide +kernel), by decide +kernel, by decide⟩, WT_mem (List.mem_append_right _ (List.mem_of_getElem? (i := 859) (by decide +kernel))) (by decide +kernel), WT_mem (List.mem_append_left _ (List.mem_of_getElem? (i := 80) (by decide +kernel))) (by decide +kernel)⟩
theorem cv_X9_changeBy : CV mX9_changeBy 2 := ⟨⟨WT_mem (List.mem_append_right _ (List.mem_of_getElem? (i := 846) (by decide +kernel))) (by decide +kernel), WT_mem (List.mem_append_right _ (List.mem_of_getElem? (i := 10) (by decide +kernel))) (by decide +kernel), by decide +kernel, by decide⟩, WT_mem (List.mem_append_right _ (List.mem_of_getElem? (i := 845) (by decide +kernel))) (by decide +kernel), WT_mem (List.mem_append_left _ (List.mem_of_getElem? (i := 78) (by decide +kernel))) (by decide +kernel)⟩
theorem cv_X9_layGap : CV mX9_layGap 4 := ⟨⟨WT_mem (List.mem_append_right _ (List.mem_of_getElem? (i := 842) (by decide +kernel))) (by decide +kernel), WT_mem (List.mem_append_right _ (List.mem_of_getElem? (i := 10) (by decide +kernel))) (by decide +kernel), by decide +kernel, by decide⟩, WT_mem (List.mem_append_right _ (List.mem_of_getElem? (i := 841) (by decide +kernel))) (by decide +kernel), WT_mem (List.mem_append_left _ (List.mem_of_getElem? (i := 77) (by decide +kernel))) (by decide +kernel)⟩
theorem cv_X9_layScript : CV mX9_layScript 0 := ⟨⟨WT_mem (List.mem_append_right _ (List.mem_of_getElem? (i := 770) (by decide +kernel))) (by decide +kernel), WT_mem (List.mem_append_right _ (List.mem_of_getElem? (i := 10) (by decide +kernel))) (by decide +kernel), by decide +kernel, by decide⟩, WT_mem (List.mem_append_right _ (List.mem_of_getElem? (i := 769) (by decide +kernel))) (by decide +kernel), WT_mem (List.mem_append_left _ (List.mem_of_getElem? (i := 59) (by decide +kernel))) (by decide +kernel)⟩
theorem cv_X9_layKept : CV mX9_layKept 0 := ⟨⟨WT_mem (List.mem_append_right _ (List.mem_of_getElem? (i := 774) (by decide +kernel))) (by decide +kernel), WT_mem (List.mem_append_right _ (List.mem_of_getElem? (i := 10) (by decide +kernel))) (by decide +kernel), by decide +kernel, by decide⟩, WT_mem (List.mem_append_right _ (List.mem_of_getElem? (i := 773) (by decide +kernel))) (by decide +kernel), WT_mem (List.mem_append_left _ (List.mem_of_getElem? (i := 60) (by decide +kernel))) (by decide +kernel)⟩
theorem cv_X9_isStep : CV mX9_isStep 1 := ⟨⟨WT_mem (List.mem_append_right _ (List.mem_of_getElem? (i := 888) (by decide +kernel))) (by decide +kernel), WT_mem (List.mem_append_right _ (List.mem_of_getElem? (i := 10) (by decide +kernel))) (by decide +kernel), by decide +kernel, by decide⟩, WT_mem (List.mem_append_right _ (List.mem_of_getElem? (i := 887) (by decide +kernel))) (by decide +kernel), WT_mem (List.mem_append_left _ (List.mem_of_getElem? (i := 83) (by decide +kernel))) (by decide +kernel)⟩
theorem cv_X9_step : CV mX9_step 2 := ⟨⟨WT_mem (List.mem_append_right _ (List.mem_of_getElem? (i := 884) (by decide +kernel))) (by decide +kernel), WT_mem (List.mem_append_right _ (List.mem_of_getElem? (i := 10) (by decide +kernel))) (by decide +kernel), by decide +kernel, by decide⟩, WT_mem (List.mem_append_right _ (List.mem_of_getElem? (i := 882) (by decide +kernel))) (by decide +kernel), WT_mem (List.mem_append_right _ (List.mem_of_getElem? (i := 883) (by decide +kernel))) (by decide +kernel)⟩
theorem cv_X9_lettersBy : CV mX9_lettersBy 2 := ⟨⟨WT_mem (List.mem_append_right _ (List.mem_of_getElem? (i := 897) (by decide +kernel))) (by decide +kernel), WT_mem (List.mem_append_right _ (List.mem_of_getElem? (i := 10) (by decide +kernel))) (by decide +kernel), by decide +kernel, by decide⟩, WT_mem (List.mem_append_right _ (List.mem_of_getElem? (i := 896) (by decide +kernel))) (by decide +kernel), WT_mem (List.mem_append_left _ (List.mem_of_getElem? (i := 84) (by decide +kernel))) (by decide +kernel)⟩
theorem cv_X9_letters : CV mX9_letters 2 := ⟨⟨WT_mem (List.mem_append_right _ (List.mem_of_getElem? (i := 893) (by decide +kernel))) (by decide +kernel), WT_mem (List.mem_append_right _ (List.mem_of_getElem? (i := 10) (by decide +kernel))) (by decide +kernel), by decide +kernel, by decide⟩, WT_mem (List.mem_append_right _ (List.mem_of_getElem? (i := 891) (by decide +kernel))) (by decide +kernel), WT_mem (List.mem_append_right _ (List.mem_of_getElem? (i := 892) (by decide +kernel))) (by decide +kernel)⟩
theorem cv_X9_tellLine : CV mX9_tellLine 3 := ⟨⟨WT_mem (List.mem_append_right _ (List.mem_of_getElem? (i := 905) (by decide +kernel))) (by decide +kernel), WT_mem (List.mem_append_right _ (List.mem_of_getElem? (i := 10) (by decide +kernel))) (by decide +kernel), by decide +kernel, by decide⟩, WT_mem (List.mem_append_right _ (List.mem_of_getElem? (i := 904) (by decide +kernel))) (by decide +kernel), WT_mem (List.mem_append_left _ (List.mem_of_getElem? (i := 85) (by decide +kernel))) (by decide +kernel)⟩
theorem cv_X9_line : CV mX9_line 3 := ⟨⟨WT_mem (List.mem_append_right _ (List.mem_of_getElem? (i := 901) (by decide +kernel))) (by decide +kernel), WT_mem (List.mem_append_right _ (List.mem_of_getElem? (i := 10) (by decide +kernel))) (by decide +kernel), by decide +kernel, by decide⟩, WT_mem (List.mem_append_right _ (List.mem_of_getElem? (i := 899) (by decide +kernel))) (by decide +kernel), WT_mem (List.mem_append_right _ (List.mem_of_getElem? (i := 900) (by decide +kernel))) (by decide +kernel)⟩
theorem cv_X9_rackedOf : CV mX9_rackedOf 1 := ⟨⟨WT_mem (List.mem_append_right _ (List.mem_of_getElem? (i := 913) (by decide +kernel))) (by decide +kernel), WT_mem (List.mem_append_right _ (List.mem_of_getElem? (i := 10) (by decide +kernel))) (by decide +kernel), by decide +kernel, by decide⟩, WT_mem (List.mem_append_right _ (List.mem_of_getElem? (i := 912) (by decide +kernel))) (by decide +kernel), WT_mem (List.mem_append_left _ (List.mem_of_getElem? (i := 86) (by decide +kernel))) (by decide +kernel)⟩
theorem cs_X9_isOf : CS mX9_isOf 2 := ⟨⟨WT_mem (List.mem_append_right _ (List.mem_of_getElem? (i := 916) (by decide +kernel))) (by decide +kernel), WT_mem (List.mem_append_right _ (List.mem_of_getElem? (i := 10) (by decide +kernel))) (by decide +kernel), by decide +kernel, by decide⟩, WT_mem (List.mem_append_right _ (List.mem_of_getElem? (i := 915) (by decide +kernel))) (by decide +kernel)⟩
theorem cv_X9_rack : CV mX9_rack 2 := ⟨⟨WT_mem (List.mem_append_right _ (List.mem_of_getElem? (i := 909) (by decide +kernel))) (by decide +kernel), WT_mem (List.mem_append_right _ (List.mem_of_getElem? (i := 10) (by decide +kernel))) (by decide +kernel), by decide +kernel, by decide⟩, WT_mem (List.mem_append_right _ (List.mem_of_getElem? (i := 907) (by decide +kernel))) (by decide +kernel), WT_mem (List.mem_append_right _ (List.mem_of_getElem? (i := 908) (by decide +kernel))) (by decide +kernel)⟩
theorem cv_X9_racked : CV mX9_racked 2 := ⟨⟨WT_mem (List.mem_append_right _ (List.mem_of_getElem? (i := 920) (by decide +kernel))) (by decide +kernel), WT_mem (List.mem_append_right _ (List.mem_of_getElem? (i := 10) (by decide +kernel))) (by decide +kernel), by decide +kernel, by decide⟩, WT_mem (List.mem_append_right _ (List.mem_of_getElem? (i := 918) (by decide +kernel))) (by decide +kernel), WT_mem (List.mem_append_right _ (List.mem_of_getElem? (i := 919) (by decide +kernel))) (by decide +kernel)⟩
theorem cs_X9_isLetters : CS mX9_isLetters 1 := ⟨⟨WT_mem (List.mem_append_right _ (List.mem_of_getElem? (i := 927) (by decide +kernel))) (by decide +kernel), WT_mem (List.mem_append_right _ (List.mem_of_getElem? (i := 10) (by decide +kernel))) (by decide +kernel), by decide +kernel, by decide⟩, WT_mem (List.mem_append_right _ (List.mem_of_getElem? (i := 926) (by decide +kernel))) (by decide +kernel)⟩
theorem cv_X9_insert : CV mX9_insert 3 := ⟨⟨WT_mem (List.mem_append_right _ (List.mem_of_getElem? (i := 932) (by decide +kernel))) (by decide +kernel), WT_mem (List.mem_append_right _ (List.mem_of_getElem? (i := 10) (by decide +kernel))) (by decide +kernel), by decide +kernel, by decide⟩, WT_mem (List.mem_append_right _ (List.mem_of_getElem? (i := 931) (by decide +kernel))) (by decide +kernel), WT_mem (List.mem_append_left _ (List.mem_of_getElem? (i := 87) (by decide +kernel))) (by decide +kernel)⟩
theorem cv_X9_remove : CV mX9_remove 2 := ⟨⟨WT_mem (List.mem_append_right _ (List.mem_of_getElem? (i := 940) (by decide +kernel))) (by decide +kernel), WT_mem (List.mem_append_right _ (List.mem_of_getElem? (i := 10) (by decide +kernel))) (by decide +kernel), by decide +kernel, by decide⟩, WT_mem (List.mem_append_right _ (List.mem_of_getElem? (i := 939) (by decide +kernel))) (by decide +kernel), WT_mem (List.mem_append_left _ (List.mem_of_getElem? (i := 88) (by decide +kernel))) (by decide +kernel)⟩
theorem cv_X9_put : CV mX9_put 3 := ⟨⟨WT_mem (List.mem_append_right _ (List.mem_of_getElem? (i := 924) (by decide +kernel))) (by decide +kernel), WT_mem (List.mem_append_right _ (List.mem_of_getElem? (i := 10) (by decide +kernel))) (by decide +kernel), by decide +kernel, by decide⟩, WT_mem (List.mem_append_right _ (List.mem_of_getElem? (i := 922) (by decide +kernel))) (by decide +kernel), WT_mem (List.mem_append_right _ (List.mem_of_getElem? (i := 923) (by decide +kernel))) (by decide +kernel)⟩
theorem cv_X9_take : CV mX9_take 2 := ⟨⟨WT_mem (List.mem_append_right _ (List.mem_of_getElem? (i := 936) (by decide +kernel))) (by decide +kernel), WT_mem (List.mem_append_right _ (List.mem_of_getElem? (i := 10) (by decide +kernel))) (by decide +kernel), by decide +kernel, by decide⟩, WT_mem (List.mem_append_right _ (List.mem_of_getElem? (i := 934) (by decide +kernel))) (by decide +kernel), WT_mem (List.mem_append_right _ (List.mem_of_getElem? (i := 935) (by decide +kernel))) (by decide +kernel)⟩
theorem cv_X9_swap : CV mX9_swap 3 := ⟨⟨WT_mem (List.mem_append_right _ (List.mem_of_getElem? (i := 944) (by decide +kernel))) (by decide +kernel), WT_mem (List.mem_append_right _ (List.mem_of_getElem? (i := 10) (by decide +kernel))) (by decide +kernel), by decide +kernel, by decide⟩, WT_mem (List.mem_append_right _ (List.mem_of_getElem? (i := 942) (by decide +kernel))) (by decide +kernel), WT_mem (List.mem_append_right _ (List.mem_of_getElem? (i := 943) (by decide +kernel))) (by decide +kernel)⟩
theorem cv_X9_turn : CV mX9_turn 0 := ⟨⟨WT_mem (List.mem_append_right _ (List.mem_of_getElem? (i := 948) (by decide +kernel))) (by decide +kernel), WT_mem (List.mem_append_right _ (List.mem_of_getElem? (i := 10) (by decide +kernel))) (by decide +kernel), by decide +kernel, by decide⟩, WT_mem (List.mem_append_right _ (List.mem_of_getElem? (i := 946) (by decide +kernel))) (by decide +kernel), WT_mem (List.mem_append_right _ (List.mem_of_getElem? (i := 947) (by decide +kernel))) (by decide +kernel)⟩
theorem cv_X9_keptMany : CV mX9_keptMany 0 := ⟨⟨WT_mem (List.mem_append_right _ (List.mem_of_getElem? (i := 964) (by decide +kernel))) (by decide +kernel), WT_mem (List.mem_append_right _ (List.mem_of_getElem? (i := 10) (by decide +kernel))) (by decide +kernel), by decide +kernel, by decide⟩, WT_mem (List.mem_append_right _ (List.mem_of_getElem? (i := 963) (by decide +kernel))) (by decide +kernel), WT_mem (List.mem_append_left _ (List.mem_of_getElem? (i := 91) (by decide +kernel))) (by decide +kernel)⟩
theorem cv_X9_costNow : CV mX9_costNow 0 := ⟨⟨WT_mem (List.mem_append_right _ (List.mem_of_getElem? (i := 960) (by decide +kernel))) (by decide +kernel), WT_mem (List.mem_append_right _ (List.mem_of_getElem? (i := 10) (by decide +kernel))) (by decide +kernel), by decide +kernel, by decide⟩, WT_mem (List.mem_append_right _ (List.mem_of_getElem? (i := 959) (by decide +kernel))) (by decide +kernel), WT_mem (List.mem_append_left _ (List.mem_of_getElem? (i := 90) (by decide +kernel))) (by decide +kernel)⟩
theorem cv_X9_costOf : CV mX9_costOf 1 := ⟨⟨WT_mem (List.mem_append_right _ (List.mem_of_getElem? (i := 956) (by decide +kernel))) (by decide +kernel), WT_mem (List.mem_append_right _ (List.mem_of_getElem? (i := 10) (by decide +kernel))) (by decide +kernel), by decide +kernel, by decide⟩, WT_mem (List.mem_append_right _ (List.mem_of_getElem? (i := 955) (by decide +kernel))) (by decide +kernel), WT_mem (List.mem_append_left _ (List.mem_of_getElem? (i := 89) (by decide +kernel))) (by decide +kernel)⟩
theorem cv_X9_cost : CV mX9_cost 1 := ⟨⟨WT_mem (List.mem_append_right _ (List.mem_of_getElem? (i := 952) (by decide +kernel))) (by decide +kernel), WT_mem (List.mem_append_right _ (List.mem_of_getElem? (i := 10) (by decide +kernel))) (by decide +kernel), by decide +kernel, by decide⟩, WT_mem (List.mem_append_right _ (List.mem_of_getElem? (i := 950) (by decide +kernel))) (by decide +kernel), WT_mem (List.mem_append_right _ (List.mem_of_getElem? (i := 951) (by decide +kernel))) (by decide +kernel)⟩
theorem cv_X9_bestOf : CV mX9_bestOf 1 := ⟨⟨WT_mem (List.mem_append_right _ (List.mem_of_getElem? (i := 972) (by decide +kernel))) (by decide +kernel), WT_mem (List.mem_append_right _ (List.mem_of_getElem? (i := 10) (by decide +kernel))) (by decide +kernel), by decide +kernel, by decide⟩, WT_mem (List.mem_append_right _ (List.mem_of_getElem? (i := 971) (by decide +kernel))) (by decide +kernel), WT_mem (List.mem_append_left _ (List.mem_of_getElem? (i := 92) (by decide +kernel))) (by decide +kernel)⟩
theorem cv_X9_best : CV mX9_best 1 := ⟨⟨WT_mem (List.mem_append_right _ (List.mem_of_getElem? (i := 968) (by decide +kernel))) (by decide +kernel), WT_mem (List.mem_append_right _ (List.mem_of_getElem? (i := 10) (by decide +kernel))) (by decide +kernel), by decide +kernel, by decide⟩, WT_mem (List.mem_append_right _ (List.mem_of_getElem? (i := 966) (by decide +kernel))) (by decide +kernel), WT_mem (List.mem_append_right _ (List.mem_of_getElem? (i := 967) (by decide +kernel))) (by decide +kernel)⟩
theorem cv_X9_allOf : CV mX9_allOf 0 := ⟨⟨WT_mem (List.mem_append_right _ (List.mem_of_getElem? (i := 980) (by decide +kernel))) (by decide +kernel), WT_mem (List.mem_append_right _ (List.mem_of_getElem? (i := 10) (by decide +kernel))) (by decide +kernel), by decide +kernel, by decide⟩, WT_mem (List.mem_append_right _ (List.mem_of_getElem? (i := 979) (by decide +kernel))) (by decide +kernel), WT_mem (List.mem_append_left _ (List.mem_of_getElem? (i := 93) (by decide +kernel))) (by decide +kernel)⟩
theorem cv_X9_all : CV mX9_all 0 := ⟨⟨WT_mem (List.mem_append_right _ (List.mem_of_getElem? (i := 976) (by decide +kernel))) (by decide +kernel), WT_mem (List.mem_append_right _ (List.mem_of_getElem? (i := 10) (by decide +kernel))) (by decide +kernel), by decide +kernel, by decide⟩, WT_mem (List.mem_append_right _ (List.mem_of_getElem? (i := 974) (by decide +kernel))) (by decide +kernel), WT_mem (List.mem_append_right _ (List.mem_of_getElem? (i := 975) (by decide +kernel))) (by decide +kernel)⟩
theorem cv_X9_draw : CV mX9_draw 1 := ⟨⟨WT_mem (List.mem_append_right _ (List.mem_of_getElem? (i := 990) (by decide +kernel))) (by decide +kernel), WT_mem (List.mem_append_right _ (List.mem_of_getElem? (i := 10) (by decide +kernel))) (by decide +kernel), by decide +kernel, by decide⟩, WT_mem (List.mem_append_right _ (List.mem_of_getElem? (i := 989) (by decide +kernel))) (by decide +kernel), WT_mem (List.mem_append_left _ (List.mem_of_getElem? (i := 94) (by decide +kernel))) (by decide +kernel)⟩
theorem cv_X9_drawn : CV mX9_drawn 3 := ⟨⟨WT_mem (List.mem_append_right _ (List.mem_of_getElem? (i := 985) (by decide +kernel))) (by decide +kernel), WT_mem (List.mem_append_right _ (List.mem_of_getElem? (i := 10) (by decide +kernel))) (by decide +kernel), by decide +kernel, by decide⟩, WT_mem (List.mem_append_right _ (List.mem_of_getElem? (i := 983) (by decide +kernel))) (by decide +kernel), WT_mem (List.mem_append_right _ (List.mem_of_getElem? (i := 984) (by decide +kernel))) (by decide +kernel)⟩
theorem cv_X9_image : CV mX9_image 0 := ⟨⟨WT_mem (List.mem_append_right _ (List.mem_of_getElem? (i := 998) (by decide +kernel))) (by decide +kernel), WT_mem (List.mem_append_right _ (List.mem_of_getElem? (i := 10) (by decide +kernel))) (by decide +kernel), by decide +kernel, by decide⟩, WT_mem (List.mem_append_right _ (List.mem_of_getElem? (i := 996) (by decide +kernel))) (by decide +kernel), WT_mem (List.mem_append_right _ (List.mem_of_getElem? (i := 997) (by decide +kernel))) (by decide +kernel)⟩
theorem cv_X9_restore : CV mX9_restore 0 := ⟨⟨WT_mem (List.mem_append_right _ (List.mem_of_getElem? (i := 1002) (by decide +kernel))) (by decide +kernel), WT_mem (List.mem_append_right _ (List.mem_of_getElem? (i := 10) (by decide +kernel))) (by decide +kernel), by decide +kernel, by decide⟩, WT_mem (List.mem_append_right _ (List.mem_of_getElem? (i := 1000) (by decide +kernel))) (by decide +kernel), WT_mem (List.mem_append_right _ (List.mem_of_getElem? (i := 1001) (by decide +kernel))) (by decide +kernel)⟩
theorem cv_X9_stepsOf : CV mX9_stepsOf 1 := ⟨⟨WT_mem (List.mem_append_right _ (List.mem_of_getElem? (i := 1014) (by decide +kernel))) (by decide +kernel), WT_mem (List.mem_append_right _ (List.mem_of_getElem? (i := 10) (by decide +kernel))) (by decide +kernel), by decide +kernel, by decide⟩, WT_mem (List.mem_append_right _ (List.mem_of_getElem? (i := 1013) (by decide +kernel))) (by decide +kernel), WT_mem (List.mem_append_left _ (List.mem_of_getElem? (i := 96) (by decide +kernel))) (by decide +kernel)⟩
theorem cv_X9_rackedAll : CV mX9_rackedAll 0 := ⟨⟨WT_mem (List.mem_append_right _ (List.mem_of_getElem? (i := 1018) (by decide +kernel))) (by decide +kernel), WT_mem (List.mem_append_right _ (List.mem_of_getElem? (i := 10) (by decide +kernel))) (by decide +kernel), by decide +kernel, by decide⟩, WT_mem (List.mem_append_right _ (List.mem_of_getElem? (i := 1017) (by decide +kernel))) (by decide +kernel), WT_mem (List.mem_append_left _ (List.mem_of_getElem? (i := 97) (by decide +kernel))) (by decide +kernel)⟩
theorem cv_X9_countOf : CV mX9_countOf 1 := ⟨⟨WT_mem (List.mem_append_right _ (List.mem_of_getElem? (i := 1010) (by decide +kernel))) (by decide +kernel), WT_mem (List.mem_append_right _ (List.mem_of_getElem? (i := 10) (by decide +kernel))) (by decide +kernel), by decide +kernel, by decide⟩, WT_mem (List.mem_append_right _ (List.mem_of_getElem? (i := 1009) (by decide +kernel))) (by decide +kernel), WT_mem (List.mem_append_left _ (List.mem_of_getElem? (i := 95) (by decide +kernel))) (by decide +kernel)⟩
theorem cv_X9_count : CV mX9_count 1 := ⟨⟨WT_mem (List.mem_append_right _ (List.mem_of_getElem? (i := 1006) (by decide +kernel))) (by decide +kernel), WT_mem (List.mem_append_right _ (List.mem_of_getElem? (i := 10) (by decide +kernel))) (by decide +kernel), by decide +kernel, by decide⟩, WT_mem (List.mem_append_right _ (List.mem_of_getElem? (i := 1004) (by decide +kernel))) (by decide +kernel), WT_mem (List.mem_append_right _ (List.mem_of_getElem? (i := 1005) (by decide +kernel))) (by decide +kernel)⟩
theorem cv_X9_say : CV mX9_say 1 := ⟨⟨WT_mem (List.mem_append_right _ (List.mem_of_getElem? (i := 1027) (by decide +kernel))) (by decide +kernel), WT_mem (List.mem_append_right _ (List.mem_of_getElem? (i := 10) (by decide +kernel))) (by decide +kernel), by decide +kernel, by decide⟩, WT_mem (List.mem_append_right _ (List.mem_of_getElem? (i := 1026) (by decide +kernel))) (by decide +kernel), WT_mem (List.mem_append_left _ (List.mem_of_getElem? (i := 98) (by decide +kernel))) (by decide +kernel)⟩
theorem cv_X9_sayText : CV mX9_sayText 0 := ⟨⟨WT_mem (List.mem_append_right _ (List.mem_of_getElem? (i := 1032) (by decide +kernel))) (by decide +kernel), WT_mem (List.mem_append_right _ (List.mem_of_getElem? (i := 10) (by decide +kernel))) (by decide +kernel), by decide +kernel, by decide⟩, WT_mem (List.mem_append_right _ (List.mem_of_getElem? (i := 1031) (by decide +kernel))) (by decide +kernel), WT_mem (List.mem_append_left _ (List.mem_of_getElem? (i := 99) (by decide +kernel))) (by decide +kernel)⟩
theorem cv_X9_digest : CV mX9_digest 0 := ⟨⟨WT_mem (List.mem_append_right _ (List.mem_of_getElem? (i := 1022) (by decide +kernel))) (by decide +kernel), WT_mem (List.mem_append_right _ (List.mem_of_getElem? (i := 10) (by decide +kernel))) (by decide +kernel), by decide +kernel, by decide⟩, WT_mem (List.mem_append_right _ (List.mem_of_getElem? (i := 1020) (by decide +kernel))) (by decide +kernel), WT_mem (List.mem_append_right _ (List.mem_of_getElem? (i := 1021) (by decide +kernel))) (by decide +kernel)⟩
theorem kc_X6_87 : Cond.constantFloat RX6 87 1056964608 ∈ WT := WT_mem (List.mem_append_right _ (List.mem_of_getElem? (i := 423) (by decide +kernel))) (by decide +kernel)
theorem kc_X8_272 : Cond.constantFloat RX8 272 1258291200 ∈ WT := WT_mem (List.mem_append_right _ (List.mem_of_getElem? (i := 435) (by decide +kernel))) (by decide +kernel)
theorem kc_X8_273 : Cond.constant RX8 273 (Int32.ofInt (8388607)) ∈ WT := WT_mem (List.mem_append_right _ (List.mem_of_getElem? (i := 436) (by decide +kernel))) (by decide +kernel)
theorem kc_X6_88 : Cond.constantFloat RX6 88 1061158912 ∈ WT := WT_mem (List.mem_append_right _ (List.mem_of_getElem? (i := 441) (by decide +kernel))) (by decide +kernel)
theorem kc_X8_194 : Cond.constantLong RX8 194 (Int64.ofInt (-103)) ∈ WT := WT_mem (List.mem_append_right _ (List.mem_of_getElem? (i := 566) (by decide +kernel))) (by decide +kernel)
theorem kc_X8_274 : Cond.constantLong RX8 274 (Int64.ofInt (1075)) ∈ WT := WT_mem (List.mem_append_right _ (List.mem_of_getElem? (i := 571) (by decide +kernel))) (by decide +kernel)
theorem kc_X8_276 : Cond.constantDouble RX8 276 4841369599423283200 ∈ WT := WT_mem (List.mem_append_right _ (List.mem_of_getElem? (i := 572) (by decide +kernel))) (by decide +kernel)
theorem kc_X8_278 : Cond.constantDouble RX8 278 4611686018427387904 ∈ WT := WT_mem (List.mem_append_right _ (List.mem_of_getElem? (i := 573) (by decide +kernel))) (by decide +kernel)
theorem kc_X8_280 : Cond.constantLong RX8 280 (Int64.ofInt (4503599627370495)) ∈ WT := WT_mem (List.mem_append_right _ (List.mem_of_getElem? (i := 574) (by decide +kernel))) (by decide +kernel)
theorem kc_X8_259 : Cond.constantLong RX8 259 (Int64.ofInt (1103515245)) ∈ WT := WT_mem (List.mem_append_right _ (List.mem_of_getElem? (i := 584) (by decide +kernel))) (by decide +kernel)
theorem kc_X8_261 : Cond.constantLong RX8 261 (Int64.ofInt (12345)) ∈ WT := WT_mem (List.mem_append_right _ (List.mem_of_getElem? (i := 585) (by decide +kernel))) (by decide +kernel)
theorem kc_X8_263 : Cond.constantLong RX8 263 (Int64.ofInt (2147483648)) ∈ WT := WT_mem (List.mem_append_right _ (List.mem_of_getElem? (i := 586) (by decide +kernel))) (by decide +kernel)
theorem kc_X8_265 : Cond.constant RX8 265 (Int32.ofInt (65536)) ∈ WT := WT_mem (List.mem_append_right _ (List.mem_of_getElem? (i := 587) (by decide +kernel))) (by decide +kernel)
theorem kc_X8_214 : Cond.constantLong RX8 214 (Int64.ofInt (1409)) ∈ WT := WT_mem (List.mem_append_right _ (List.mem_of_getElem? (i := 612) (by decide +kernel))) (by decide +kernel)
theorem kc_X8_223 : Cond.constantLong RX8 223 (Int64.ofInt (31)) ∈ WT := WT_mem (List.mem_append_right _ (List.mem_of_getElem? (i := 617) (by decide +kernel))) (by decide +kernel)
theorem kc_X9_71 : Cond.constantLong RX9 71 (Int64.ofInt (126)) ∈ WT := WT_mem (List.mem_append_right _ (List.mem_of_getElem? (i := 738) (by decide +kernel))) (by decide +kernel)
theorem kc_X9_80 : Cond.constantLong RX9 80 (Int64.ofInt (97)) ∈ WT := WT_mem (List.mem_append_right _ (List.mem_of_getElem? (i := 758) (by decide +kernel))) (by decide +kernel)
theorem kc_X9_82 : Cond.constantLong RX9 82 (Int64.ofInt (101)) ∈ WT := WT_mem (List.mem_append_right _ (List.mem_of_getElem? (i := 759) (by decide +kernel))) (by decide +kernel)
theorem kc_X9_175 : Cond.constantLong RX9 175 (Int64.ofInt (2)) ∈ WT := WT_mem (List.mem_append_right _ (List.mem_of_getElem? (i := 865) (by decide +kernel))) (by decide +kernel)
theorem kc_X9_218 : Cond.constant RX9 218 (Int32.ofInt (1065353216)) ∈ WT := WT_mem (List.mem_append_right _ (List.mem_of_getElem? (i := 869) (by decide +kernel))) (by decide +kernel)
theorem kc_X9_228 : Cond.constantLong RX9 228 (Int64.ofInt (4)) ∈ WT := WT_mem (List.mem_append_right _ (List.mem_of_getElem? (i := 889) (by decide +kernel))) (by decide +kernel)
theorem kc_X9_242 : Cond.constant RX9 242 (Int32.ofInt (2097152)) ∈ WT := WT_mem (List.mem_append_right _ (List.mem_of_getElem? (i := 928) (by decide +kernel))) (by decide +kernel)
theorem kc_X9_268 : Cond.constantLong RX9 268 (Int64.ofInt (-103)) ∈ WT := WT_mem (List.mem_append_right _ (List.mem_of_getElem? (i := 981) (by decide +kernel))) (by decide +kernel)
theorem kc_X9_280 : Cond.constantLong RX9 280 (Int64.ofInt (30)) ∈ WT := WT_mem (List.mem_append_right _ (List.mem_of_getElem? (i := 986) (by decide +kernel))) (by decide +kernel)
theorem kc_X9_270 : Cond.constantLong RX9 270 (Int64.ofInt (1103515245)) ∈ WT := WT_mem (List.mem_append_right _ (List.mem_of_getElem? (i := 991) (by decide +kernel))) (by decide +kernel)
theorem kc_X9_275 : Cond.constantLong RX9 275 (Int64.ofInt (12345)) ∈ WT := WT_mem (List.mem_append_right _ (List.mem_of_getElem? (i := 992) (by decide +kernel))) (by decide +kernel)
theorem kc_X9_277 : Cond.constantLong RX9 277 (Int64.ofInt (2147483647)) ∈ WT := WT_mem (List.mem_append_right _ (List.mem_of_getElem? (i := 993) (by decide +kernel))) (by decide +kernel)
theorem kc_X9_279 : Cond.constant RX9 279 (Int32.ofInt (65536)) ∈ WT := WT_mem (List.mem_append_right _ (List.mem_of_getElem? (i := 994) (by decide +kernel))) (by decide +kernel)
theorem kc_X9_304 : Cond.constantLong RX9 304 (Int64.ofInt (1409)) ∈ WT := WT_mem (List.mem_append_right _ (List.mem_of_getElem? (i := 1023) (by decide +kernel))) (by decide +kernel)
theorem kc_X9_294 : Cond.constantLong RX9 294 (Int64.ofInt (31)) ∈ WT := WT_mem (List.mem_append_right _ (List.mem_of_getElem? (i := 1028) (by decide +kernel))) (by decide +kernel)
def IsSides (b : Nat) : Prop := KD[b]? = some (.inl (7, [.inl (b + 1), .inl (b + 4)])) ∧ KD[b + 1]? = some (.inr (.inr (2, b + 2))) ∧ (∀ i, i < 2 → KD[b + 2 + i]? = some (.inr (.inl 8))) ∧ KD[b + 4]? = some (.inr (.inl 2))
def IsCommon (f : Nat) : Prop := KD[f]? = some (.inl (0, [.inl (f + 1)])) ∧ KD[f + 1]? = some (.inr (.inr (9, f + 2))) ∧ (∀ i, i < 9 → KD[f + 2 + i]? = some (.inr (.inl 9)))
def IsMatch (o : Nat) : Prop := KD[o]? = some (.inl (2, [.inl (o + 1), .inl (o + 6), .inl (o + 9), .inl (o + 20), .inl (o + 21), .inl (o + 22), .inl (o + 23), .inr false, .inr false])) ∧ IsSides (o + 1) ∧ KD[o + 6]? = some (.inr (.inr (2, o + 7))) ∧ (∀ i, i < 2 → KD[o + 7 + i]? = some (.inr (.inl 8))) ∧ IsCommon (o + 9) ∧ KD[o + 20]? = some (.inr (.inl 8)) ∧ KD[o + 21]? = some (.inr (.inl 8)) ∧ KD[o + 22]? = some (.inr (.inl 2)) ∧ KD[o + 23]? = some (.inr (.inl 2))
theorem rows_2 {b l : Nat} (h0 : KD[b]? = some (.inr (.inl l))) (h1 : KD[b + 1]? = some (.inr (.inl l))) : ∀ i, i < 2 → KD[b + i]? = some (.inr (.inl l))
  | 0, _ => h0
  | 1, _ => h1
  | i + 2, h => absurd h (by omega)
theorem rows_all {b l n : Nat} (h : (List.range n).all (fun i => decide (KD[b + i]? = some (.inr (.inl l)))) = true) : ∀ i, i < n → KD[b + i]? = some (.inr (.inl l)) := fun i hi => by
  simpa using List.all_eq_true.mp h i (List.mem_range.mpr hi)
theorem isSides_5 : IsSides 5 := ⟨rfl, rfl, rows_2 rfl rfl, rfl⟩
theorem isSides_29 : IsSides 29 := ⟨rfl, rfl, rows_2 rfl rfl, rfl⟩
theorem isSides_52 : IsSides 52 := ⟨rfl, rfl, rows_2 rfl rfl, rfl⟩
theorem isCommon_13 : IsCommon 13 := ⟨rfl, rfl, rows_all (by decide +kernel)⟩
theorem isCommon_37 : IsCommon 37 := ⟨rfl, rfl, rows_all (by decide +kernel)⟩
theorem isCommon_58 : IsCommon 58 := ⟨rfl, rfl, rows_all (by decide +kernel)⟩
theorem isMatch_4 : IsMatch 4 := ⟨rfl, isSides_5, rfl, rows_2 rfl rfl, isCommon_13, rfl, rfl, rfl, rfl⟩
theorem isMatch_28 : IsMatch 28 := ⟨rfl, isSides_29, rfl, rows_2 rfl rfl, isCommon_37, rfl, rfl, rfl, rfl⟩
theorem inb_nat {z : Int} {n : Nat} (h : 0 ≤ z ∧ z < n) : z.toNat < n := by omega
end
section
theorem rg_bool {z : Int} (h : z = 0 ∨ z = 1) : rg z := by rcases h with rfl | rfl <;> exact ⟨by decide, by decide⟩
theorem rg_ite {c : Prop} {a b : Int} [Decidable c] (ha : rg a) (hb : rg b) : rg (if c then a else b) := by split <;> assumption
theorem rw_6 : ∀ i, i < 2 → KD[7 + i]? = some (.inr (.inl 8)) := rows_all (by decide +kernel)
theorem rw_10 : ∀ i, i < 2 → KD[11 + i]? = some (.inr (.inl 8)) := rows_all (by decide +kernel)
theorem rw_14 : ∀ i, i < 9 → KD[15 + i]? = some (.inr (.inl 9)) := rows_all (by decide +kernel)
theorem rw_30 : ∀ i, i < 2 → KD[31 + i]? = some (.inr (.inl 8)) := rows_all (by decide +kernel)
theorem rw_34 : ∀ i, i < 2 → KD[35 + i]? = some (.inr (.inl 8)) := rows_all (by decide +kernel)
theorem rw_38 : ∀ i, i < 9 → KD[39 + i]? = some (.inr (.inl 9)) := rows_all (by decide +kernel)
theorem rw_53 : ∀ i, i < 2 → KD[54 + i]? = some (.inr (.inl 8)) := rows_all (by decide +kernel)
theorem rw_59 : ∀ i, i < 9 → KD[60 + i]? = some (.inr (.inl 9)) := rows_all (by decide +kernel)
theorem rw_77 : ∀ i, i < 2 → KD[78 + i]? = some (.inr (.inl 8)) := rows_all (by decide +kernel)
theorem rw_81 : ∀ i, i < 5 → KD[82 + i]? = some (.inr (.inl 3)) := rows_all (by decide +kernel)
def S_X7_has_0 (g : AG) (d : Nat) (b : Nat) (l1 : Int) (l2 : Int) (M : AM) (Q : Int → AM → Prop) : Prop := Wa g mX7_has d 0 [(0, vR b), (1, vI l1), (2, vI l2)] [] M (QI Q)
set_option maxRecDepth 100000 in
theorem sg_X7_has_0 {g : AG} {d : Nat} {b : Nat} {l1 : Int} {l2 : Int} {M : AM} {Q : Int → AM → Prop} (hs : IsSides b)
  (h : rg l1 ∧ (MetI g mX8_isSide d [vI l1] M (fun z3 M2 => rg z3 → ((z3 = 0 → (Q 0 M2)) ∧ (¬ z3 = 0 → (rg l2 ∧ ((l2 < 0 → (Q 0 M2)) ∧ (¬ l2 < 0 → ((0 ≤ l1 ∧ l1 < 2) ∧ (((M2 (b + 4) (l1).toNat) ≤ l2 → (Q 0 M2)) ∧ (¬ (M2 (b + 4) (l1).toNat) ≤ l2 → (Q 1 M2)))))))))))) : S_X7_has_0 g (d + 1) b l1 l2 M Q := by
  show Wa _ _ _ _ _ _ _ _
  refine Wa_iload_n 1 dX7_has_0 rfl rfl ?_
  obtain ⟨q1, h⟩ := h
  refine Wa_callS [vI l1] _ lc_X7_20 cs_X8_isSide rfl rfl (Nat.le_refl _) (by decide) dX7_has_1 h ?_
  intro r M2 h
  obtain ⟨z3, rfl, r4, h⟩ := h
  have h := h r4
  refine Wa_if_eq (tgt := 25) dX7_has_4 (by decide) r4 (fun c5 => ?_) (fun c5 => ?_)
  · have h := h.1 c5
    refine Wa_iconst (z := 0) dX7_has_25 ?_
    exact Wa_zreturn dX7_has_26 rfl (by decide) ⟨_, rfl, rg_bool (by decide), h⟩
  · have h := h.2 c5
    refine Wa_iload_n 2 dX7_has_7 rfl rfl ?_
    obtain ⟨q6, h⟩ := h
    refine Wa_if_lt (tgt := 25) dX7_has_8 (by decide) q6 (fun c7 => ?_) (fun c7 => ?_)
    · have h := h.1 c7
      refine Wa_iconst (z := 0) dX7_has_25 ?_
      exact Wa_zreturn dX7_has_26 rfl (by decide) ⟨_, rfl, rg_bool (by decide), h⟩
    · have h := h.2 c7
      refine Wa_iload_n 2 dX7_has_11 rfl rfl ?_
      refine Wa_aload_n 0 dX7_has_12 rfl rfl ?_
      refine Wa_getR cf_X7 lk_X7_16 hs.1 (j := 1) rfl (by decide) dX7_has_13 ?_
      refine Wa_iload_n 1 dX7_has_16 rfl rfl ?_
      obtain ⟨b8, h⟩ := h
      refine Wa_iald hs.2.2.2 b8 dX7_has_17 (fun r9 => ?_)
      refine Wa_icmp_ge (tgt := 25) dX7_has_18 (by decide) q6 r9 (fun c10 => ?_) (fun c10 => ?_)
      · have h := h.1 c10
        refine Wa_iconst (z := 0) dX7_has_25 ?_
        exact Wa_zreturn dX7_has_26 rfl (by decide) ⟨_, rfl, rg_bool (by decide), h⟩
      · have h := h.2 c10
        refine Wa_iconst (z := 1) dX7_has_21 ?_
        refine Wa_goto (tgt := 26) dX7_has_22 (by decide) ?_
        exact Wa_zreturn dX7_has_26 rfl (by decide) ⟨_, rfl, rg_bool (by decide), h⟩
theorem en_X7_has {g : AG} {d : Nat} {b : Nat} {l1 : Int} {l2 : Int} {M : AM} {Q : Int → AM → Prop} (h : S_X7_has_0 g d b l1 l2 M Q) : MetI g mX7_has d [vR b, vI l1, vI l2] M Q := MetA.of (by decide) (by show _ ≤ _; decide) h
def S_X7_insert_0 (g : AG) (d : Nat) (b : Nat) (l1 : Int) (l2 : Int) (l3 : Int) (M : AM) (Q : AM → Prop) : Prop := Wa g mX7_insert d 0 [(0, vR b), (1, vI l1), (2, vI l2), (3, vI l3)] [] M (QV Q)
def S_X7_insert_49 (g : AG) (d : Nat) (b : Nat) (l1 : Int) (l2 : Int) (l3 : Int) (l4 : Nat) (l5 : Int) (M : AM) (Q : AM → Prop) : Prop := Wa g mX7_insert d 49 [(0, vR b), (1, vI l1), (2, vI l2), (3, vI l3), (4, vR l4), (5, vI l5)] [] M (QV Q)
set_option maxRecDepth 100000 in
theorem sg_X7_insert_0 {g : AG} {d : Nat} {b : Nat} {l1 : Int} {l2 : Int} {l3 : Int} {M : AM} {Q : AM → Prop} (hs : IsSides b)
  (h : rg l1 ∧ (MetI g mX8_isSide d [vI l1] M (fun z3 M2 => rg z3 → ((z3 = 0 → (Q M2)) ∧ (¬ z3 = 0 → (rg l2 ∧ ((l2 < 0 → (Q M2)) ∧ (¬ l2 < 0 → ((0 ≤ l1 ∧ l1 < 2) ∧ (((M2 (b + 4) (l1).toNat) < l2 → (Q M2)) ∧ (¬ (M2 (b + 4) (l1).toNat) < l2 → (((M2 (b + 4) (l1).toNat) < 8 → (S_X7_insert_49 g (d + 1) b l1 l2 l3 (b + 2 + (l1).toNat) (M2 (b + 4) (l1).toNat) M2 Q)) ∧ (¬ (M2 (b + 4) (l1).toNat) < 8 → (Q M2)))))))))))))) : S_X7_insert_0 g (d + 1) b l1 l2 l3 M Q := by
  show Wa _ _ _ _ _ _ _ _
  refine Wa_iload_n 1 dX7_insert_0 rfl rfl ?_
  obtain ⟨q1, h⟩ := h
  refine Wa_callS [vI l1] _ lc_X7_20 cs_X8_isSide rfl rfl (Nat.le_refl _) (by decide) dX7_insert_1 h ?_
  intro r M2 h
  obtain ⟨z3, rfl, r4, h⟩ := h
  have h := h r4
  refine Wa_if_eq (tgt := 32) dX7_insert_4 (by decide) r4 (fun c5 => ?_) (fun c5 => ?_)
  · have h := h.1 c5
    exact Wa_return dX7_insert_32 rfl ⟨rfl, h⟩
  · have h := h.2 c5
    refine Wa_iload_n 2 dX7_insert_7 rfl rfl ?_
    obtain ⟨q6, h⟩ := h
    refine Wa_if_lt (tgt := 32) dX7_insert_8 (by decide) q6 (fun c7 => ?_) (fun c7 => ?_)
    · have h := h.1 c7
      exact Wa_return dX7_insert_32 rfl ⟨rfl, h⟩
    · have h := h.2 c7
      refine Wa_iload_n 2 dX7_insert_11 rfl rfl ?_
      refine Wa_aload_n 0 dX7_insert_12 rfl rfl ?_
      refine Wa_getR cf_X7 lk_X7_16 hs.1 (j := 1) rfl (by decide) dX7_insert_13 ?_
      refine Wa_iload_n 1 dX7_insert_16 rfl rfl ?_
      obtain ⟨b8, h⟩ := h
      refine Wa_iald hs.2.2.2 b8 dX7_insert_17 (fun r9 => ?_)
      refine Wa_icmp_gt (tgt := 32) dX7_insert_18 (by decide) q6 r9 (fun c10 => ?_) (fun c10 => ?_)
      · have h := h.1 c10
        exact Wa_return dX7_insert_32 rfl ⟨rfl, h⟩
      · have h := h.2 c10
        refine Wa_aload_n 0 dX7_insert_21 rfl rfl ?_
        refine Wa_getR cf_X7 lk_X7_16 hs.1 (j := 1) rfl (by decide) dX7_insert_22 ?_
        refine Wa_iload_n 1 dX7_insert_25 rfl rfl ?_
        refine Wa_iald hs.2.2.2 b8 dX7_insert_26 (fun r11 => ?_)
        refine Wa_bipush (z := 8) dX7_insert_27 (by decide) ?_
        refine Wa_icmp_lt (tgt := 33) dX7_insert_29 (by decide) r11 ⟨by decide, by decide⟩ (fun c12 => ?_) (fun c12 => ?_)
        · have h := h.1 c12
          refine Wa_aload_n 0 dX7_insert_33 rfl rfl ?_
          refine Wa_getR cf_X7 lk_X7_11 hs.1 (j := 0) rfl (by decide) dX7_insert_34 ?_
          refine Wa_iload_n 1 dX7_insert_37 rfl rfl ?_
          refine Wa_aald hs.2.1 b8 dX7_insert_38 ?_
          refine Wa_astore (ls' := [(4, vR (b + 2 + (l1).toNat)), (0, vR b), (1, vI l1), (2, vI l2), (3, vI l3)]) dX7_insert_39 (by decide) rfl ?_
          refine Wa_aload_n 1 dX7_insert_41 rfl rfl ?_
          refine Wa_getR cf_X7 lk_X7_16 hs.1 (j := 1) rfl (by decide) dX7_insert_42 ?_
          refine Wa_iload_n 2 dX7_insert_45 rfl rfl ?_
          refine Wa_iald hs.2.2.2 b8 dX7_insert_46 (fun r13 => ?_)
          refine Wa_istore (ls' := [(5, vI (M2 (b + 4) (l1).toNat)), (4, vR (b + 2 + (l1).toNat)), (0, vR b), (1, vI l1), (2, vI l2), (3, vI l3)]) dX7_insert_47 (by decide) rfl ?_
          refine Wa_sub [2, 3, 4, 5, 1, 0] rfl ?_
          exact h
        · have h := h.2 c12
          exact Wa_return dX7_insert_32 rfl ⟨rfl, h⟩
set_option maxRecDepth 100000 in
theorem sg_X7_insert_49 {g : AG} {d : Nat} {b : Nat} {l1 : Int} {l2 : Int} {l3 : Int} {l4 : Nat} {l5 : Int} {M : AM} {Q : AM → Prop} (hs : IsSides b) (hr4 : KD[l4]? = some (.inr (.inl 8)))
  (h : rg l5 ∧ (rg l2 ∧ ((l5 ≤ l2 → ((0 ≤ l2 ∧ l2 < 8) ∧ (rg l3 ∧ ((0 ≤ l1 ∧ l1 < 2) ∧ (rg (((mU M l4 (l2).toNat l3) (b + 4) (l1).toNat) + 1) ∧ (Q (mU (mU M l4 (l2).toNat l3) (b + 4) (l1).toNat (((mU M l4 (l2).toNat l3) (b + 4) (l1).toNat) + 1)))))))) ∧ (¬ l5 ≤ l2 → ((0 ≤ (l5 - 1) ∧ (l5 - 1) < 8) ∧ ((0 ≤ l5 ∧ l5 < 8) ∧ (S_X7_insert_49 g (d + 1) b l1 l2 l3 l4 (l5 + (-1)) (mU M l4 (l5).toNat (M l4 ((l5 - 1)).toNat)) Q))))))) : S_X7_insert_49 g (d + 1) b l1 l2 l3 l4 l5 M Q := by
  show Wa _ _ _ _ _ _ _ _
  refine Wa_iload 5 dX7_insert_49 rfl ?_
  refine Wa_iload_n 2 dX7_insert_51 rfl rfl ?_
  obtain ⟨q1, h⟩ := h
  obtain ⟨q2, h⟩ := h
  refine Wa_icmp_le (tgt := 73) dX7_insert_52 (by decide) q1 q2 (fun c3 => ?_) (fun c3 => ?_)
  · have h := h.1 c3
    refine Wa_aload 4 dX7_insert_73 rfl ?_
    refine Wa_iload_n 2 dX7_insert_75 rfl rfl ?_
    refine Wa_iload_n 3 dX7_insert_76 rfl rfl ?_
    obtain ⟨b4, h⟩ := h
    obtain ⟨q5, h⟩ := h
    refine Wa_iast hr4 b4 q5 dX7_insert_77 ?_
    refine Wa_aload_n 0 dX7_insert_78 rfl rfl ?_
    refine Wa_getR cf_X7 lk_X7_16 hs.1 (j := 1) rfl (by decide) dX7_insert_79 ?_
    refine Wa_iload_n 1 dX7_insert_82 rfl rfl ?_
    refine Wa_dup2 dX7_insert_83 rfl rfl ?_
    obtain ⟨b6, h⟩ := h
    refine Wa_iald hs.2.2.2 b6 dX7_insert_84 (fun r7 => ?_)
    refine Wa_iconst (z := 1) dX7_insert_85 ?_
    refine Wa_iadd dX7_insert_86 ?_
    obtain ⟨q8, h⟩ := h
    refine Wa_iast hs.2.2.2 b6 q8 dX7_insert_87 ?_
    exact Wa_return dX7_insert_88 rfl ⟨rfl, h⟩
  · have h := h.2 c3
    refine Wa_aload 4 dX7_insert_55 rfl ?_
    refine Wa_iload 5 dX7_insert_57 rfl ?_
    refine Wa_aload 4 dX7_insert_59 rfl ?_
    refine Wa_iload 5 dX7_insert_61 rfl ?_
    refine Wa_iconst (z := 1) dX7_insert_63 ?_
    refine Wa_isub dX7_insert_64 ?_
    obtain ⟨b9, h⟩ := h
    refine Wa_iald hr4 b9 dX7_insert_65 (fun r10 => ?_)
    obtain ⟨b11, h⟩ := h
    refine Wa_iast hr4 b11 r10 dX7_insert_66 ?_
    refine Wa_iinc (ls' := [(5, vI (l5 + (-1))), (0, vR b), (1, vI l1), (2, vI l2), (3, vI l3), (4, vR l4)]) 5 dX7_insert_67 rfl (by decide) rfl ?_
    refine Wa_goto (tgt := 49) dX7_insert_70 (by decide) ?_
    refine Wa_sub [1, 2, 3, 4, 5, 0] rfl ?_
    exact h
theorem en_X7_insert {g : AG} {d : Nat} {b : Nat} {l1 : Int} {l2 : Int} {l3 : Int} {M : AM} {Q : AM → Prop} (h : S_X7_insert_0 g d b l1 l2 l3 M Q) : MetV g mX7_insert d [vR b, vI l1, vI l2, vI l3] M Q := MetA.of (by decide) (by show _ ≤ _; decide) h
def S_X7_copyFrom_0 (g : AG) (d : Nat) (b : Nat) (b2 : Nat) (M : AM) (Q : AM → Prop) : Prop := Wa g mX7_copyFrom d 0 [(0, vR b), (1, vR b2)] [] M (QV Q)
def S_X7_copyFrom_2 (g : AG) (d : Nat) (b : Nat) (b2 : Nat) (l2 : Int) (M : AM) (Q : AM → Prop) : Prop := Wa g mX7_copyFrom d 2 [(0, vR b), (1, vR b2), (2, vI l2)] [] M (QV Q)
set_option maxRecDepth 100000 in
theorem sg_X7_copyFrom_0 {g : AG} {d : Nat} {b : Nat} {b2 : Nat} {M : AM} {Q : AM → Prop} (hs : IsSides b) (hs2 : IsSides b2)
  (h : S_X7_copyFrom_2 g (d + 1) b b2 0 M Q) : S_X7_copyFrom_0 g (d + 1) b b2 M Q := by
  show Wa _ _ _ _ _ _ _ _
  refine Wa_iconst (z := 0) dX7_copyFrom_0 ?_
  refine Wa_istore_n (ls' := [(2, vI 0), (0, vR b), (1, vR b2)]) dX7_copyFrom_1 rfl (by decide) rfl ?_
  refine Wa_sub [1, 2, 0] rfl ?_
  exact h
set_option maxRecDepth 100000 in
theorem sg_X7_copyFrom_2 {g : AG} {d : Nat} {b : Nat} {b2 : Nat} {l2 : Int} {M : AM} {Q : AM → Prop} (hs : IsSides b) (hs2 : IsSides b2)
  (h : rg l2 ∧ ((2 ≤ l2 → (Q M)) ∧ (¬ 2 ≤ l2 → ((0 ≤ l2 ∧ l2 < 2) ∧ (S_X7_copyFrom_2 g (d + 1) b b2 (l2 + 1) (mC (mU M (b + 4) (l2).toNat (M (b2 + 4) (l2).toNat)) (b2 + 2 + (l2).toNat) (b + 2 + (l2).toNat) 0 0 8) Q))))) : S_X7_copyFrom_2 g (d + 1) b b2 l2 M Q := by
  show Wa _ _ _ _ _ _ _ _
  refine Wa_iload_n 2 dX7_copyFrom_2 rfl rfl ?_
  refine Wa_iconst (z := 2) dX7_copyFrom_3 ?_
  obtain ⟨q1, h⟩ := h
  refine Wa_icmp_ge (tgt := 44) dX7_copyFrom_4 (by decide) q1 ⟨by decide, by decide⟩ (fun c2 => ?_) (fun c2 => ?_)
  · have h := h.1 c2
    exact Wa_return dX7_copyFrom_44 rfl ⟨rfl, h⟩
  · have h := h.2 c2
    refine Wa_aload_n 0 dX7_copyFrom_7 rfl rfl ?_
    refine Wa_getR cf_X7 lk_X7_16 hs.1 (j := 1) rfl (by decide) dX7_copyFrom_8 ?_
    refine Wa_iload_n 2 dX7_copyFrom_11 rfl rfl ?_
    refine Wa_aload_n 1 dX7_copyFrom_12 rfl rfl ?_
    refine Wa_getR cf_X7 lk_X7_16 hs2.1 (j := 1) rfl (by decide) dX7_copyFrom_13 ?_
    refine Wa_iload_n 2 dX7_copyFrom_16 rfl rfl ?_
    obtain ⟨b3, h⟩ := h
    refine Wa_iald hs2.2.2.2 b3 dX7_copyFrom_17 (fun r4 => ?_)
    refine Wa_iast hs.2.2.2 b3 r4 dX7_copyFrom_18 ?_
    refine Wa_aload_n 1 dX7_copyFrom_19 rfl rfl ?_
    refine Wa_getR cf_X7 lk_X7_11 hs2.1 (j := 0) rfl (by decide) dX7_copyFrom_20 ?_
    refine Wa_iload_n 2 dX7_copyFrom_23 rfl rfl ?_
    refine Wa_aald hs2.2.1 b3 dX7_copyFrom_24 ?_
    refine Wa_iconst (z := 0) dX7_copyFrom_25 ?_
    refine Wa_aload_n 0 dX7_copyFrom_26 rfl rfl ?_
    refine Wa_getR cf_X7 lk_X7_11 hs.1 (j := 0) rfl (by decide) dX7_copyFrom_27 ?_
    refine Wa_iload_n 2 dX7_copyFrom_30 rfl rfl ?_
    refine Wa_aald hs.2.1 b3 dX7_copyFrom_31 ?_
    refine Wa_iconst (z := 0) dX7_copyFrom_32 ?_
    refine Wa_bipush (z := 8) dX7_copyFrom_33 (by decide) ?_
    refine Wa_acopy (hs2.2.2.1 _ (inb_nat b3)) (hs.2.2.1 _ (inb_nat b3)) lc_X7_24 na_copy st_copy in_Sys (by decide) (by decide) (by decide) (by decide) (by decide) (by omega) (by decide) dX7_copyFrom_35 ?_
    refine Wa_iinc (ls' := [(2, vI (l2 + 1)), (0, vR b), (1, vR b2)]) 2 dX7_copyFrom_38 rfl (by decide) rfl ?_
    refine Wa_goto (tgt := 2) dX7_copyFrom_41 (by decide) ?_
    refine Wa_sub [1, 2, 0] rfl ?_
    exact h
theorem en_X7_copyFrom {g : AG} {d : Nat} {b : Nat} {b2 : Nat} {M : AM} {Q : AM → Prop} (h : S_X7_copyFrom_0 g d b b2 M Q) : MetV g mX7_copyFrom d [vR b, vR b2] M Q := MetA.of (by decide) (by show _ ≤ _; decide) h
def S_X8_singleBits_0 (g : AG) (d : Nat) (l0 : UInt32) (M : AM) (Q : Int → AM → Prop) : Prop := Wa g mX8_singleBits d 0 [(0, vF l0)] [] M (QI Q)
def S_X8_singleBits_16 (g : AG) (d : Nat) (l1 : UInt32) (l2 : Int) (l3 : Int) (M : AM) (Q : Int → AM → Prop) : Prop := Wa g mX8_singleBits d 16 [(1, vF l1), (2, vI l2), (3, vI l3)] [] M (QI Q)
set_option maxRecDepth 100000 in
theorem sg_X8_singleBits_0 {g : AG} {d : Nat} {l0 : UInt32} {M : AM} {Q : Int → AM → Prop} 
  (h : (0 < (fCmp l0 FP.fconst0 .l) → (S_X8_singleBits_16 g (d + 1) l0 150 0 M Q)) ∧ (¬ 0 < (fCmp l0 FP.fconst0 .l) → (Q 0 M))) : S_X8_singleBits_0 g (d + 1) l0 M Q := by
  show Wa _ _ _ _ _ _ _ _
  refine Wa_fload_n 0 dX8_singleBits_0 rfl rfl ?_
  refine Wa_fconst0 dX8_singleBits_1 ?_
  refine Wa_fcmp dX8_singleBits_2 ?_
  refine Wa_if_gt (tgt := 8) dX8_singleBits_3 (by decide) (rg_toInt _) (fun c1 => ?_) (fun c1 => ?_)
  · have h := h.1 c1
    refine Wa_fload_n 0 dX8_singleBits_8 rfl rfl ?_
    refine Wa_fstore_n (ls' := [(1, vF l0), (0, vF l0)]) dX8_singleBits_9 rfl (by decide) rfl ?_
    refine Wa_sipush (z := 150) dX8_singleBits_10 (by decide) ?_
    refine Wa_istore_n (ls' := [(2, vI 150), (1, vF l0), (0, vF l0)]) dX8_singleBits_13 rfl (by decide) rfl ?_
    refine Wa_iconst (z := 0) dX8_singleBits_14 ?_
    refine Wa_istore_n (ls' := [(3, vI 0), (2, vI 150), (1, vF l0), (0, vF l0)]) dX8_singleBits_15 rfl (by decide) rfl ?_
    refine Wa_sub [2, 1, 0] rfl ?_
    exact h
  · have h := h.2 c1
    refine Wa_iconst (z := 0) dX8_singleBits_6 ?_
    exact Wa_ireturn dX8_singleBits_7 rfl ⟨_, rfl, ⟨by decide, by decide⟩, h⟩
set_option maxRecDepth 100000 in
theorem sg_X8_singleBits_16 {g : AG} {d : Nat} {l1 : UInt32} {l2 : Int} {l3 : Int} {M : AM} {Q : Int → AM → Prop} 
  (h : rg l3 ∧ ((127 ≤ l3 → (Q (iOr (iShl l2 23) (iAnd (f2I l1) 8388607)) M)) ∧ (¬ 127 ≤ l3 → ((0 ≤ (fCmp l1 1258291200 .g) → (Q (iOr (iShl l2 23) (iAnd (f2I l1) 8388607)) M)) ∧ (¬ 0 ≤ (fCmp l1 1258291200 .g) → (vf_n32 (FP.fmul l1 FP.fconst2) ∧ (S_X8_singleBits_16 g (d + 1) (FP.fmul l1 FP.fconst2) (l2 + (-1)) (l3 + 1) M Q))))))) : S_X8_singleBits_16 g (d + 1) l1 l2 l3 M Q := by
  show Wa _ _ _ _ _ _ _ _
  refine Wa_iload_n 2 dX8_singleBits_16 rfl rfl ?_
  refine Wa_bipush (z := 127) dX8_singleBits_17 (by decide) ?_
  obtain ⟨q1, h⟩ := h
  refine Wa_icmp_ge (tgt := 43) dX8_singleBits_19 (by decide) q1 ⟨by decide, by decide⟩ (fun c2 => ?_) (fun c2 => ?_)
  · have h := h.1 c2
    refine Wa_iload_n 1 dX8_singleBits_43 rfl rfl ?_
    refine Wa_bipush (z := 23) dX8_singleBits_44 (by decide) ?_
    refine Wa_ishl dX8_singleBits_46 ?_
    refine Wa_fload_n 0 dX8_singleBits_47 rfl rfl ?_
    refine Wa_f2i dX8_singleBits_48 ?_
    refine Wa_ldcw (z := 8388607) dX8_singleBits_49 kc_X8_273 ?_
    refine Wa_iand dX8_singleBits_52 ?_
    refine Wa_ior dX8_singleBits_53 ?_
    exact Wa_ireturn dX8_singleBits_54 rfl ⟨_, rfl, (rg_toInt _), h⟩
  · have h := h.2 c2
    refine Wa_fload_n 0 dX8_singleBits_22 rfl rfl ?_
    refine Wa_ldcf (z := 1258291200) dX8_singleBits_23 kc_X8_272 ?_
    refine Wa_fcmp dX8_singleBits_26 ?_
    refine Wa_if_ge (tgt := 43) dX8_singleBits_27 (by decide) (rg_toInt _) (fun c3 => ?_) (fun c3 => ?_)
    · have h := h.1 c3
      refine Wa_iload_n 1 dX8_singleBits_43 rfl rfl ?_
      refine Wa_bipush (z := 23) dX8_singleBits_44 (by decide) ?_
      refine Wa_ishl dX8_singleBits_46 ?_
      refine Wa_fload_n 0 dX8_singleBits_47 rfl rfl ?_
      refine Wa_f2i dX8_singleBits_48 ?_
      refine Wa_ldcw (z := 8388607) dX8_singleBits_49 kc_X8_273 ?_
      refine Wa_iand dX8_singleBits_52 ?_
      refine Wa_ior dX8_singleBits_53 ?_
      exact Wa_ireturn dX8_singleBits_54 rfl ⟨_, rfl, (rg_toInt _), h⟩
    · have h := h.2 c3
      refine Wa_fload_n 0 dX8_singleBits_30 rfl rfl ?_
      refine Wa_fconst2 dX8_singleBits_31 ?_
      obtain ⟨n4, h⟩ := h
      refine Wa_fmul dX8_singleBits_32 n4 ?_
      refine Wa_fstore_n (ls' := [(1, vF (FP.fmul l1 FP.fconst2)), (2, vI l2), (3, vI l3)]) dX8_singleBits_33 rfl (by decide) rfl ?_
      refine Wa_iinc (ls' := [(2, vI (l2 + (-1))), (1, vF (FP.fmul l1 FP.fconst2)), (3, vI l3)]) 1 dX8_singleBits_34 rfl (by decide) rfl ?_
      refine Wa_iinc (ls' := [(3, vI (l3 + 1)), (2, vI (l2 + (-1))), (1, vF (FP.fmul l1 FP.fconst2))]) 2 dX8_singleBits_37 rfl (by decide) rfl ?_
      refine Wa_goto (tgt := 16) dX8_singleBits_40 (by decide) ?_
      refine Wa_sub [2, 1, 0] rfl ?_
      exact h
theorem en_X8_singleBits {g : AG} {d : Nat} {l0 : UInt32} {M : AM} {Q : Int → AM → Prop} (h : S_X8_singleBits_0 g d l0 M Q) : MetI g mX8_singleBits d [vF l0] M Q := MetA.of (by decide) (by show _ ≤ _; decide) h
def S_X8_count_0 (g : AG) (d : Nat) (l1 : Int) (M : AM) (Q : Int → AM → Prop) : Prop := Wa g mX8_count d 0 [(0, vR 0), (1, vI l1)] [] M (QI Q)
set_option maxRecDepth 100000 in
theorem sg_X8_count_0 {g : AG} {d : Nat} {l1 : Int} {M : AM} {Q : Int → AM → Prop} 
  (h : rg l1 ∧ ((l1 < 0 ∨ 10 < l1 → (Q (-102) M)) ∧ (l1 = 0 → ((0 ≤ l1 ∧ l1 < 2) ∧ (Q (M 9 (l1).toNat) M))) ∧ (l1 = 1 → ((0 ≤ l1 ∧ l1 < 2) ∧ (Q (M 9 (l1).toNat) M))) ∧ (l1 = 2 → (Q (M 71 6) M)) ∧ (l1 = 3 → (rg (l1 - 3) ∧ (MetI g mX6_howManyOf d [vR 71, vI (l1 - 3)] M (fun z10 M9 => rg z10 → (Q z10 M9))))) ∧ (l1 = 4 → (rg (l1 - 3) ∧ (MetI g mX6_howManyOf d [vR 71, vI (l1 - 3)] M (fun z14 M13 => rg z14 → (Q z14 M13))))) ∧ (l1 = 5 → (rg (l1 - 3) ∧ (MetI g mX6_howManyOf d [vR 71, vI (l1 - 3)] M (fun z18 M17 => rg z18 → (Q z18 M17))))) ∧ (l1 = 6 → (rg (l1 - 3) ∧ (MetI g mX6_howManyOf d [vR 71, vI (l1 - 3)] M (fun z22 M21 => rg z22 → (Q z22 M21))))) ∧ (l1 = 7 → (rg (l1 - 3) ∧ (MetI g mX6_howManyOf d [vR 71, vI (l1 - 3)] M (fun z26 M25 => rg z26 → (Q z26 M25))))) ∧ (l1 = 8 → (MetI g mX4_total d [vR 80] M (fun z29 M28 => rg z29 → (Q z29 M28)))) ∧ (l1 = 9 → (Q (M 1 2) M)) ∧ (l1 = 10 → (Q (M 0 10) M)))) : S_X8_count_0 g (d + 1) l1 M Q := by
  show Wa _ _ _ _ _ _ _ _
  refine Wa_iload_n 1 dX8_count_0 rfl rfl ?_
  obtain ⟨q1, h⟩ := h
  by_cases c2 : l1 < 0 ∨ 10 < l1
  · have h := h.1 c2
    refine Wa_tabOut (tgt := 110) dX8_count_1 q1 c2 (by decide) ?_
    refine Wa_bipush (z := (-102)) dX8_count_110 (by decide) ?_
    exact Wa_ireturn dX8_count_112 rfl ⟨_, rfl, ⟨by decide, by decide⟩, h⟩
  · have h := h.2
    rcases (show l1 = 0 ∨ l1 = 1 ∨ l1 = 2 ∨ l1 = 3 ∨ l1 = 4 ∨ l1 = 5 ∨ l1 = 6 ∨ l1 = 7 ∨ l1 = 8 ∨ l1 = 9 ∨ l1 = 10 by omega) with c2 | c2 | c2 | c2 | c2 | c2 | c2 | c2 | c2 | c2 | c2
    · have h := h.1 c2
      refine Wa_tabIn (tgt := 60) dX8_count_1 q1 (by omega) (by omega) (by rw [c2]; rfl) (by decide) ?_
      refine Wa_aload_n 0 dX8_count_60 rfl rfl ?_
      refine Wa_getR cf_X8 lk_X8_27 k_0 (j := 2) rfl (by decide) dX8_count_61 ?_
      refine Wa_getR cf_X7 lk_X8_158 k_5 (j := 1) rfl (by decide) dX8_count_64 ?_
      refine Wa_iload_n 1 dX8_count_67 rfl rfl ?_
      obtain ⟨b3, h⟩ := h
      refine Wa_iald k_9 b3 dX8_count_68 (fun r4 => ?_)
      exact Wa_ireturn dX8_count_69 rfl ⟨_, rfl, r4, h⟩
    · have h := h.2.1 c2
      refine Wa_tabIn (tgt := 60) dX8_count_1 q1 (by omega) (by omega) (by rw [c2]; rfl) (by decide) ?_
      refine Wa_aload_n 0 dX8_count_60 rfl rfl ?_
      refine Wa_getR cf_X8 lk_X8_27 k_0 (j := 2) rfl (by decide) dX8_count_61 ?_
      refine Wa_getR cf_X7 lk_X8_158 k_5 (j := 1) rfl (by decide) dX8_count_64 ?_
      refine Wa_iload_n 1 dX8_count_67 rfl rfl ?_
      obtain ⟨b5, h⟩ := h
      refine Wa_iald k_9 b5 dX8_count_68 (fun r6 => ?_)
      exact Wa_ireturn dX8_count_69 rfl ⟨_, rfl, r6, h⟩
    · have h := h.2.2.1 c2
      refine Wa_tabIn (tgt := 70) dX8_count_1 q1 (by omega) (by omega) (by rw [c2]; rfl) (by decide) ?_
      refine Wa_aload_n 0 dX8_count_70 rfl rfl ?_
      refine Wa_getR cf_X8 lk_X8_47 k_0 (j := 6) rfl (by decide) dX8_count_71 ?_
      refine Wa_getI cf_X6 lk_X8_209 k_71 (j := 6) rfl (by decide) dX8_count_74 (fun r7 => ?_)
      exact Wa_ireturn dX8_count_77 rfl ⟨_, rfl, r7, h⟩
    · have h := h.2.2.2.1 c2
      refine Wa_tabIn (tgt := 78) dX8_count_1 q1 (by omega) (by omega) (by rw [c2]; rfl) (by decide) ?_
      refine Wa_aload_n 0 dX8_count_78 rfl rfl ?_
      refine Wa_getR cf_X8 lk_X8_47 k_0 (j := 6) rfl (by decide) dX8_count_79 ?_
      refine Wa_iload_n 1 dX8_count_82 rfl rfl ?_
      refine Wa_iconst (z := 3) dX8_count_83 ?_
      refine Wa_isub dX8_count_84 ?_
      obtain ⟨q8, h⟩ := h
      refine Wa_callV [vI (l1 - 3)] _ cf_X6 rfl k_71 lc_X8_210 cv_X6_howManyOf rfl rfl (Nat.le_refl _) (by decide) dX8_count_85 h ?_
      intro r M9 h
      obtain ⟨z10, rfl, r11, h⟩ := h
      have h := h r11
      exact Wa_ireturn dX8_count_88 rfl ⟨_, rfl, r11, h⟩
    · have h := h.2.2.2.2.1 c2
      refine Wa_tabIn (tgt := 78) dX8_count_1 q1 (by omega) (by omega) (by rw [c2]; rfl) (by decide) ?_
      refine Wa_aload_n 0 dX8_count_78 rfl rfl ?_
      refine Wa_getR cf_X8 lk_X8_47 k_0 (j := 6) rfl (by decide) dX8_count_79 ?_
      refine Wa_iload_n 1 dX8_count_82 rfl rfl ?_
      refine Wa_iconst (z := 3) dX8_count_83 ?_
      refine Wa_isub dX8_count_84 ?_
      obtain ⟨q12, h⟩ := h
      refine Wa_callV [vI (l1 - 3)] _ cf_X6 rfl k_71 lc_X8_210 cv_X6_howManyOf rfl rfl (Nat.le_refl _) (by decide) dX8_count_85 h ?_
      intro r M13 h
      obtain ⟨z14, rfl, r15, h⟩ := h
      have h := h r15
      exact Wa_ireturn dX8_count_88 rfl ⟨_, rfl, r15, h⟩
    · have h := h.2.2.2.2.2.1 c2
      refine Wa_tabIn (tgt := 78) dX8_count_1 q1 (by omega) (by omega) (by rw [c2]; rfl) (by decide) ?_
      refine Wa_aload_n 0 dX8_count_78 rfl rfl ?_
      refine Wa_getR cf_X8 lk_X8_47 k_0 (j := 6) rfl (by decide) dX8_count_79 ?_
      refine Wa_iload_n 1 dX8_count_82 rfl rfl ?_
      refine Wa_iconst (z := 3) dX8_count_83 ?_
      refine Wa_isub dX8_count_84 ?_
      obtain ⟨q16, h⟩ := h
      refine Wa_callV [vI (l1 - 3)] _ cf_X6 rfl k_71 lc_X8_210 cv_X6_howManyOf rfl rfl (Nat.le_refl _) (by decide) dX8_count_85 h ?_
      intro r M17 h
      obtain ⟨z18, rfl, r19, h⟩ := h
      have h := h r19
      exact Wa_ireturn dX8_count_88 rfl ⟨_, rfl, r19, h⟩
    · have h := h.2.2.2.2.2.2.1 c2
      refine Wa_tabIn (tgt := 78) dX8_count_1 q1 (by omega) (by omega) (by rw [c2]; rfl) (by decide) ?_
      refine Wa_aload_n 0 dX8_count_78 rfl rfl ?_
      refine Wa_getR cf_X8 lk_X8_47 k_0 (j := 6) rfl (by decide) dX8_count_79 ?_
      refine Wa_iload_n 1 dX8_count_82 rfl rfl ?_
      refine Wa_iconst (z := 3) dX8_count_83 ?_
      refine Wa_isub dX8_count_84 ?_
      obtain ⟨q20, h⟩ := h
      refine Wa_callV [vI (l1 - 3)] _ cf_X6 rfl k_71 lc_X8_210 cv_X6_howManyOf rfl rfl (Nat.le_refl _) (by decide) dX8_count_85 h ?_
      intro r M21 h
      obtain ⟨z22, rfl, r23, h⟩ := h
      have h := h r23
      exact Wa_ireturn dX8_count_88 rfl ⟨_, rfl, r23, h⟩
    · have h := h.2.2.2.2.2.2.2.1 c2
      refine Wa_tabIn (tgt := 78) dX8_count_1 q1 (by omega) (by omega) (by rw [c2]; rfl) (by decide) ?_
      refine Wa_aload_n 0 dX8_count_78 rfl rfl ?_
      refine Wa_getR cf_X8 lk_X8_47 k_0 (j := 6) rfl (by decide) dX8_count_79 ?_
      refine Wa_iload_n 1 dX8_count_82 rfl rfl ?_
      refine Wa_iconst (z := 3) dX8_count_83 ?_
      refine Wa_isub dX8_count_84 ?_
      obtain ⟨q24, h⟩ := h
      refine Wa_callV [vI (l1 - 3)] _ cf_X6 rfl k_71 lc_X8_210 cv_X6_howManyOf rfl rfl (Nat.le_refl _) (by decide) dX8_count_85 h ?_
      intro r M25 h
      obtain ⟨z26, rfl, r27, h⟩ := h
      have h := h r27
      exact Wa_ireturn dX8_count_88 rfl ⟨_, rfl, r27, h⟩
    · have h := h.2.2.2.2.2.2.2.2.1 c2
      refine Wa_tabIn (tgt := 89) dX8_count_1 q1 (by omega) (by omega) (by rw [c2]; rfl) (by decide) ?_
      refine Wa_aload_n 0 dX8_count_89 rfl rfl ?_
      refine Wa_getR cf_X8 lk_X8_54 k_0 (j := 7) rfl (by decide) dX8_count_90 ?_
      refine Wa_callV [] _ cf_X4 rfl k_80 lc_X8_213 cv_X4_total rfl rfl (Nat.le_refl _) (by decide) dX8_count_93 h ?_
      intro r M28 h
      obtain ⟨z29, rfl, r30, h⟩ := h
      have h := h r30
      exact Wa_ireturn dX8_count_96 rfl ⟨_, rfl, r30, h⟩
    · have h := h.2.2.2.2.2.2.2.2.2.1 c2
      refine Wa_tabIn (tgt := 97) dX8_count_1 q1 (by omega) (by omega) (by rw [c2]; rfl) (by decide) ?_
      refine Wa_aload_n 0 dX8_count_97 rfl rfl ?_
      refine Wa_getR cf_X8 lk_X8_10 k_0 (j := 0) rfl (by decide) dX8_count_98 ?_
      refine Wa_getI cf_X3 lk_X8_73 k_1 (j := 2) rfl (by decide) dX8_count_101 (fun r31 => ?_)
      exact Wa_ireturn dX8_count_104 rfl ⟨_, rfl, r31, h⟩
    · have h := h.2.2.2.2.2.2.2.2.2.2 c2
      refine Wa_tabIn (tgt := 105) dX8_count_1 q1 (by omega) (by omega) (by rw [c2]; rfl) (by decide) ?_
      refine Wa_aload_n 0 dX8_count_105 rfl rfl ?_
      refine Wa_getI cf_X8 lk_X8_65 k_0 (j := 10) rfl (by decide) dX8_count_106 (fun r32 => ?_)
      exact Wa_ireturn dX8_count_109 rfl ⟨_, rfl, r32, h⟩
theorem en_X8_count {g : AG} {d : Nat} {l1 : Int} {M : AM} {Q : Int → AM → Prop} (h : S_X8_count_0 g d l1 M Q) : MetI g mX8_count d [vR 0, vI l1] M Q := MetA.of (by decide) (by show _ ≤ _; decide) h
def S_X0_most_0 (g : AG) (d : Nat) (f : Nat) (a1 : Nat) (n1 : Nat) (a2 : Nat) (n2 : Nat) (l2 : Int) (l3 : Int) (l5 : Int) (l6 : Int) (M : AM) (Q : Int → AM → Prop) : Prop := Wa g mX0_most d 0 [(0, vR f), (1, vR a1), (2, vI l2), (3, vI l3), (4, vR a2), (5, vI l5), (6, vI l6)] [] M (QI Q)
def S_X0_most_3 (g : AG) (d : Nat) (f : Nat) (a1 : Nat) (n1 : Nat) (a2 : Nat) (n2 : Nat) (l2 : Int) (l3 : Int) (l5 : Int) (l6 : Int) (l7 : Int) (M : AM) (Q : Int → AM → Prop) : Prop := Wa g mX0_most d 3 [(0, vR f), (1, vR a1), (2, vI l2), (3, vI l3), (4, vR a2), (5, vI l5), (6, vI l6), (7, vI l7)] [] M (QI Q)
def S_X0_most_13 (g : AG) (d : Nat) (f : Nat) (a1 : Nat) (n1 : Nat) (a2 : Nat) (n2 : Nat) (l2 : Int) (l3 : Int) (l5 : Int) (l6 : Int) (l7 : Int) (l8 : Int) (M : AM) (Q : Int → AM → Prop) : Prop := Wa g mX0_most d 13 [(0, vR f), (1, vR a1), (2, vI l2), (3, vI l3), (4, vR a2), (5, vI l5), (6, vI l6), (7, vI l7), (8, vI l8)] [] M (QI Q)
set_option maxRecDepth 100000 in
theorem sg_X0_most_0 {g : AG} {d : Nat} {f : Nat} {a1 : Nat} {n1 : Nat} {a2 : Nat} {n2 : Nat} {l2 : Int} {l3 : Int} {l5 : Int} {l6 : Int} {M : AM} {Q : Int → AM → Prop} (hc : IsCommon f) (ha1 : KD[a1]? = some (.inr (.inl n1))) (ha2 : KD[a2]? = some (.inr (.inl n2)))
  (h : S_X0_most_3 g (d + 1) f a1 n1 a2 n2 l2 l3 l5 l6 l3 M Q) : S_X0_most_0 g (d + 1) f a1 n1 a2 n2 l2 l3 l5 l6 M Q := by
  show Wa _ _ _ _ _ _ _ _
  refine Wa_iload_n 3 dX0_most_0 rfl rfl ?_
  refine Wa_istore (ls' := [(7, vI l3), (0, vR f), (1, vR a1), (2, vI l2), (3, vI l3), (4, vR a2), (5, vI l5), (6, vI l6)]) dX0_most_1 (by decide) rfl ?_
  refine Wa_sub [1, 2, 3, 4, 5, 6, 7, 0] rfl ?_
  exact h
set_option maxRecDepth 100000 in
theorem sg_X0_most_3 {g : AG} {d : Nat} {f : Nat} {a1 : Nat} {n1 : Nat} {a2 : Nat} {n2 : Nat} {l2 : Int} {l3 : Int} {l5 : Int} {l6 : Int} {l7 : Int} {M : AM} {Q : Int → AM → Prop} (hc : IsCommon f) (ha1 : KD[a1]? = some (.inr (.inl n1))) (ha2 : KD[a2]? = some (.inr (.inl n2)))
  (h : rg l7 ∧ (rg l2 ∧ ((l7 < l2 → ((0 ≤ l2 ∧ l2 < 9) ∧ ((0 ≤ l5 ∧ l5 < 9) ∧ (Q (M (f + 2 + (l2).toNat) (l5).toNat) M)))) ∧ (¬ l7 < l2 → (S_X0_most_13 g (d + 1) f a1 n1 a2 n2 l2 l3 l5 l6 l7 l6 M Q))))) : S_X0_most_3 g (d + 1) f a1 n1 a2 n2 l2 l3 l5 l6 l7 M Q := by
  show Wa _ _ _ _ _ _ _ _
  refine Wa_iload 7 dX0_most_3 rfl ?_
  refine Wa_iload_n 2 dX0_most_5 rfl rfl ?_
  obtain ⟨q1, h⟩ := h
  obtain ⟨q2, h⟩ := h
  refine Wa_icmp_lt (tgt := 137) dX0_most_6 (by decide) q1 q2 (fun c3 => ?_) (fun c3 => ?_)
  · have h := h.1 c3
    refine Wa_aload_n 0 dX0_most_137 rfl rfl ?_
    refine Wa_getR cf_X0 lk_X0_11 hc.1 (j := 0) rfl (by decide) dX0_most_138 ?_
    refine Wa_iload_n 2 dX0_most_141 rfl rfl ?_
    obtain ⟨b4, h⟩ := h
    refine Wa_aald hc.2.1 b4 dX0_most_142 ?_
    refine Wa_iload 5 dX0_most_143 rfl ?_
    obtain ⟨b5, h⟩ := h
    refine Wa_iald (hc.2.2 _ (inb_nat b4)) b5 dX0_most_145 (fun r6 => ?_)
    exact Wa_ireturn dX0_most_146 rfl ⟨_, rfl, r6, h⟩
  · have h := h.2 c3
    refine Wa_iload 6 dX0_most_9 rfl ?_
    refine Wa_istore (ls' := [(8, vI l6), (0, vR f), (1, vR a1), (2, vI l2), (3, vI l3), (4, vR a2), (5, vI l5), (6, vI l6), (7, vI l7)]) dX0_most_11 (by decide) rfl ?_
    refine Wa_sub [1, 2, 3, 4, 5, 6, 7, 8, 0] rfl ?_
    exact h
set_option maxRecDepth 100000 in
theorem sg_X0_most_13 {g : AG} {d : Nat} {f : Nat} {a1 : Nat} {n1 : Nat} {a2 : Nat} {n2 : Nat} {l2 : Int} {l3 : Int} {l5 : Int} {l6 : Int} {l7 : Int} {l8 : Int} {M : AM} {Q : Int → AM → Prop} (hc : IsCommon f) (ha1 : KD[a1]? = some (.inr (.inl n1))) (ha2 : KD[a2]? = some (.inr (.inl n2)))
  (h : rg l8 ∧ (rg l5 ∧ ((l8 < l5 → (S_X0_most_3 g (d + 1) f a1 n1 a2 n2 l2 l3 l5 l6 (l7 + (-1)) M Q)) ∧ (¬ l8 < l5 → (rg l7 ∧ (rg l3 ∧ ((l7 = l3 → ((0 ≤ l7 ∧ l7 < 9) ∧ ((0 ≤ l8 ∧ l8 < 9) ∧ (S_X0_most_13 g (d + 1) f a1 n1 a2 n2 l2 l3 l5 l6 l7 (l8 + (-1)) (mU M (f + 2 + (l7).toNat) (l8).toNat 0) Q)))) ∧ (¬ l7 = l3 → (rg l6 ∧ ((¬ l8 = l6 → ((0 ≤ l7 ∧ l7 < n1) ∧ ((0 ≤ l8 ∧ l8 < n2) ∧ ((¬ (M a1 (l7).toNat) = (M a2 (l8).toNat) → ((0 ≤ l7 ∧ l7 < 9) ∧ ((0 ≤ (l7 + 1) ∧ (l7 + 1) < 9) ∧ ((0 ≤ l8 ∧ l8 < 9) ∧ ((0 ≤ (l8 + 1) ∧ (l8 + 1) < 9) ∧ (S_X0_most_13 g (d + 1) f a1 n1 a2 n2 l2 l3 l5 l6 l7 (l8 + (-1)) (mU M (f + 2 + (l7).toNat) (l8).toNat (if (M (f + 2 + ((l7 + 1)).toNat) (l8).toNat) < (M (f + 2 + (l7).toNat) ((l8 + 1)).toNat) then (M (f + 2 + (l7).toNat) ((l8 + 1)).toNat) else (M (f + 2 + ((l7 + 1)).toNat) (l8).toNat))) Q)))))) ∧ ((M a1 (l7).toNat) = (M a2 (l8).toNat) → ((0 ≤ l7 ∧ l7 < 9) ∧ ((0 ≤ (l7 + 1) ∧ (l7 + 1) < 9) ∧ ((0 ≤ (l8 + 1) ∧ (l8 + 1) < 9) ∧ ((0 ≤ l8 ∧ l8 < 9) ∧ (rg ((M (f + 2 + ((l7 + 1)).toNat) ((l8 + 1)).toNat) + 1) ∧ (S_X0_most_13 g (d + 1) f a1 n1 a2 n2 l2 l3 l5 l6 l7 (l8 + (-1)) (mU M (f + 2 + (l7).toNat) (l8).toNat ((M (f + 2 + ((l7 + 1)).toNat) ((l8 + 1)).toNat) + 1)) Q))))))))))) ∧ (l8 = l6 → ((0 ≤ l7 ∧ l7 < 9) ∧ ((0 ≤ l8 ∧ l8 < 9) ∧ (S_X0_most_13 g (d + 1) f a1 n1 a2 n2 l2 l3 l5 l6 l7 (l8 + (-1)) (mU M (f + 2 + (l7).toNat) (l8).toNat 0) Q)))))))))))))) : S_X0_most_13 g (d + 1) f a1 n1 a2 n2 l2 l3 l5 l6 l7 l8 M Q := by
  show Wa _ _ _ _ _ _ _ _
  refine Wa_iload 8 dX0_most_13 rfl ?_
  refine Wa_iload 5 dX0_most_15 rfl ?_
  obtain ⟨q1, h⟩ := h
  obtain ⟨q2, h⟩ := h
  refine Wa_icmp_lt (tgt := 131) dX0_most_17 (by decide) q1 q2 (fun c3 => ?_) (fun c3 => ?_)
  · have h := h.1 c3
    refine Wa_iinc (ls' := [(7, vI (l7 + (-1))), (0, vR f), (1, vR a1), (2, vI l2), (3, vI l3), (4, vR a2), (5, vI l5), (6, vI l6), (8, vI l8)]) 7 dX0_most_131 rfl (by decide) rfl ?_
    refine Wa_goto (tgt := 3) dX0_most_134 (by decide) ?_
    refine Wa_sub [1, 2, 3, 4, 5, 6, 7, 0] rfl ?_
    exact h
  · have h := h.2 c3
    refine Wa_iload 7 dX0_most_20 rfl ?_
    refine Wa_iload_n 3 dX0_most_22 rfl rfl ?_
    obtain ⟨q4, h⟩ := h
    obtain ⟨q5, h⟩ := h
    refine Wa_icmp_eq (tgt := 33) dX0_most_23 (by decide) q4 q5 (fun c6 => ?_) (fun c6 => ?_)
    · have h := h.1 c6
      refine Wa_aload_n 0 dX0_most_33 rfl rfl ?_
      refine Wa_getR cf_X0 lk_X0_11 hc.1 (j := 0) rfl (by decide) dX0_most_34 ?_
      refine Wa_iload 7 dX0_most_37 rfl ?_
      obtain ⟨b7, h⟩ := h
      refine Wa_aald hc.2.1 b7 dX0_most_39 ?_
      refine Wa_iload 8 dX0_most_40 rfl ?_
      refine Wa_iconst (z := 0) dX0_most_42 ?_
      obtain ⟨b8, h⟩ := h
      refine Wa_iast (hc.2.2 _ (inb_nat b7)) b8 ⟨by decide, by decide⟩ dX0_most_43 ?_
      refine Wa_goto (tgt := 125) dX0_most_44 (by decide) ?_
      refine Wa_iinc (ls' := [(8, vI (l8 + (-1))), (0, vR f), (1, vR a1), (2, vI l2), (3, vI l3), (4, vR a2), (5, vI l5), (6, vI l6), (7, vI l7)]) 8 dX0_most_125 rfl (by decide) rfl ?_
      refine Wa_goto (tgt := 13) dX0_most_128 (by decide) ?_
      refine Wa_sub [1, 2, 3, 4, 5, 6, 7, 8, 0] rfl ?_
      exact h
    · have h := h.2 c6
      refine Wa_iload 8 dX0_most_26 rfl ?_
      refine Wa_iload 6 dX0_most_28 rfl ?_
      obtain ⟨q9, h⟩ := h
      refine Wa_icmp_ne (tgt := 47) dX0_most_30 (by decide) q1 q9 (fun c10 => ?_) (fun c10 => ?_)
      · have h := h.1 c10
        refine Wa_aload_n 1 dX0_most_47 rfl rfl ?_
        refine Wa_iload 7 dX0_most_48 rfl ?_
        obtain ⟨b11, h⟩ := h
        refine Wa_iald ha1 b11 dX0_most_50 (fun r12 => ?_)
        refine Wa_aload 4 dX0_most_51 rfl ?_
        refine Wa_iload 8 dX0_most_53 rfl ?_
        obtain ⟨b13, h⟩ := h
        refine Wa_iald ha2 b13 dX0_most_55 (fun r14 => ?_)
        refine Wa_icmp_ne (tgt := 88) dX0_most_56 (by decide) r12 r14 (fun c15 => ?_) (fun c15 => ?_)
        · have h := h.1 c15
          refine Wa_aload_n 0 dX0_most_88 rfl rfl ?_
          refine Wa_getR cf_X0 lk_X0_11 hc.1 (j := 0) rfl (by decide) dX0_most_89 ?_
          refine Wa_iload 7 dX0_most_92 rfl ?_
          obtain ⟨b16, h⟩ := h
          refine Wa_aald hc.2.1 b16 dX0_most_94 ?_
          refine Wa_iload 8 dX0_most_95 rfl ?_
          refine Wa_aload_n 0 dX0_most_97 rfl rfl ?_
          refine Wa_getR cf_X0 lk_X0_11 hc.1 (j := 0) rfl (by decide) dX0_most_98 ?_
          refine Wa_iload 7 dX0_most_101 rfl ?_
          refine Wa_iconst (z := 1) dX0_most_103 ?_
          refine Wa_iadd dX0_most_104 ?_
          obtain ⟨b17, h⟩ := h
          refine Wa_aald hc.2.1 b17 dX0_most_105 ?_
          refine Wa_iload 8 dX0_most_106 rfl ?_
          obtain ⟨b18, h⟩ := h
          refine Wa_iald (hc.2.2 _ (inb_nat b17)) b18 dX0_most_108 (fun r19 => ?_)
          refine Wa_aload_n 0 dX0_most_109 rfl rfl ?_
          refine Wa_getR cf_X0 lk_X0_11 hc.1 (j := 0) rfl (by decide) dX0_most_110 ?_
          refine Wa_iload 7 dX0_most_113 rfl ?_
          refine Wa_aald hc.2.1 b16 dX0_most_115 ?_
          refine Wa_iload 8 dX0_most_116 rfl ?_
          refine Wa_iconst (z := 1) dX0_most_118 ?_
          refine Wa_iadd dX0_most_119 ?_
          obtain ⟨b20, h⟩ := h
          refine Wa_iald (hc.2.2 _ (inb_nat b16)) b20 dX0_most_120 (fun r21 => ?_)
          refine Wa_mmax lc_X0_16 st_max in_Math co_max r19 r21 (by omega) (by decide) dX0_most_121 ?_
          refine Wa_iast (hc.2.2 _ (inb_nat b16)) b18 (rg_ite r21 r19) dX0_most_124 ?_
          refine Wa_iinc (ls' := [(8, vI (l8 + (-1))), (0, vR f), (1, vR a1), (2, vI l2), (3, vI l3), (4, vR a2), (5, vI l5), (6, vI l6), (7, vI l7)]) 8 dX0_most_125 rfl (by decide) rfl ?_
          refine Wa_goto (tgt := 13) dX0_most_128 (by decide) ?_
          refine Wa_sub [1, 2, 3, 4, 5, 6, 7, 8, 0] rfl ?_
          exact h
        · have h := h.2 c15
          refine Wa_aload_n 0 dX0_most_59 rfl rfl ?_
          refine Wa_getR cf_X0 lk_X0_11 hc.1 (j := 0) rfl (by decide) dX0_most_60 ?_
          refine Wa_iload 7 dX0_most_63 rfl ?_
          obtain ⟨b22, h⟩ := h
          refine Wa_aald hc.2.1 b22 dX0_most_65 ?_
          refine Wa_iload 8 dX0_most_66 rfl ?_
          refine Wa_aload_n 0 dX0_most_68 rfl rfl ?_
          refine Wa_getR cf_X0 lk_X0_11 hc.1 (j := 0) rfl (by decide) dX0_most_69 ?_
          refine Wa_iload 7 dX0_most_72 rfl ?_
          refine Wa_iconst (z := 1) dX0_most_74 ?_
          refine Wa_iadd dX0_most_75 ?_
          obtain ⟨b23, h⟩ := h
          refine Wa_aald hc.2.1 b23 dX0_most_76 ?_
          refine Wa_iload 8 dX0_most_77 rfl ?_
          refine Wa_iconst (z := 1) dX0_most_79 ?_
          refine Wa_iadd dX0_most_80 ?_
          obtain ⟨b24, h⟩ := h
          refine Wa_iald (hc.2.2 _ (inb_nat b23)) b24 dX0_most_81 (fun r25 => ?_)
          refine Wa_iconst (z := 1) dX0_most_82 ?_
          refine Wa_iadd dX0_most_83 ?_
          obtain ⟨b26, h⟩ := h
          obtain ⟨q27, h⟩ := h
          refine Wa_iast (hc.2.2 _ (inb_nat b22)) b26 q27 dX0_most_84 ?_
          refine Wa_goto (tgt := 125) dX0_most_85 (by decide) ?_
          refine Wa_iinc (ls' := [(8, vI (l8 + (-1))), (0, vR f), (1, vR a1), (2, vI l2), (3, vI l3), (4, vR a2), (5, vI l5), (6, vI l6), (7, vI l7)]) 8 dX0_most_125 rfl (by decide) rfl ?_
          refine Wa_goto (tgt := 13) dX0_most_128 (by decide) ?_
          refine Wa_sub [1, 2, 3, 4, 5, 6, 7, 8, 0] rfl ?_
          exact h
      · have h := h.2 c10
        refine Wa_aload_n 0 dX0_most_33 rfl rfl ?_
        refine Wa_getR cf_X0 lk_X0_11 hc.1 (j := 0) rfl (by decide) dX0_most_34 ?_
        refine Wa_iload 7 dX0_most_37 rfl ?_
        obtain ⟨b28, h⟩ := h
        refine Wa_aald hc.2.1 b28 dX0_most_39 ?_
        refine Wa_iload 8 dX0_most_40 rfl ?_
        refine Wa_iconst (z := 0) dX0_most_42 ?_
        obtain ⟨b29, h⟩ := h
        refine Wa_iast (hc.2.2 _ (inb_nat b28)) b29 ⟨by decide, by decide⟩ dX0_most_43 ?_
        refine Wa_goto (tgt := 125) dX0_most_44 (by decide) ?_
        refine Wa_iinc (ls' := [(8, vI (l8 + (-1))), (0, vR f), (1, vR a1), (2, vI l2), (3, vI l3), (4, vR a2), (5, vI l5), (6, vI l6), (7, vI l7)]) 8 dX0_most_125 rfl (by decide) rfl ?_
        refine Wa_goto (tgt := 13) dX0_most_128 (by decide) ?_
        refine Wa_sub [1, 2, 3, 4, 5, 6, 7, 8, 0] rfl ?_
        exact h
theorem en_X0_most {g : AG} {d : Nat} {f : Nat} {a1 : Nat} {n1 : Nat} {a2 : Nat} {n2 : Nat} {l2 : Int} {l3 : Int} {l5 : Int} {l6 : Int} {M : AM} {Q : Int → AM → Prop} (h : S_X0_most_0 g d f a1 n1 a2 n2 l2 l3 l5 l6 M Q) : MetI g mX0_most d [vR f, vR a1, vI l2, vI l3, vR a2, vI l5, vI l6] M Q := MetA.of (by decide) (by show _ ≤ _; decide) h
end
