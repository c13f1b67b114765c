abbrev QI (Q : Int → AM → Prop) : Option AV → AM → Prop := fun r M' => ∃ z, r = some (vI z) ∧ rg z ∧ Q z M'
abbrev QV (Q : AM → Prop) : Option AV → AM → Prop := fun r M' => r = none ∧ Q M'
abbrev QL (Q : Int → AM → Prop) : Option AV → AM → Prop := fun r M' => ∃ z, r = some (vL z) ∧ Q z M'
abbrev QF (Q : UInt32 → AM → Prop) : Option AV → AM → Prop := fun r M' => ∃ z, r = some (vF z) ∧ Q z M'
def MetI (g : AG) (n : MI) (d : Nat) (as : List AV) (M : AM) (Q : Int → AM → Prop) : Prop := MetA g n d as M (QI Q)
def MetV (g : AG) (n : MI) (d : Nat) (as : List AV) (M : AM) (Q : AM → Prop) : Prop := MetA g n d as M (QV Q)
def MetL (g : AG) (n : MI) (d : Nat) (as : List AV) (M : AM) (Q : Int → AM → Prop) : Prop := MetA g n d as M (QL Q)
def MetF (g : AG) (n : MI) (d : Nat) (as : List AV) (M : AM) (Q : UInt32 → AM → Prop) : Prop := MetA g n d as M (QF Q)
theorem MetI.imp {g : AG} {n : MI} {d : Nat} {as : List AV} {M : AM} {Q Q' : Int → AM → Prop} (h : MetI g n d as M Q) (k : ∀ z M', rg z → Q z M' → Q' z M') : MetI g n d as M Q' := MetA.mono h (fun r M' ⟨z, e, r1, q⟩ => ⟨z, e, r1, k z M' r1 q⟩)
theorem MetV.imp {g : AG} {n : MI} {d : Nat} {as : List AV} {M : AM} {Q Q' : AM → Prop} (h : MetV g n d as M Q) (k : ∀ M', Q M' → Q' M') : MetV g n d as M Q' := MetA.mono h (fun r M' ⟨e, q⟩ => ⟨e, k M' q⟩)
theorem MetL.imp {g : AG} {n : MI} {d : Nat} {as : List AV} {M : AM} {Q Q' : Int → AM → Prop} (h : MetL g n d as M Q) (k : ∀ z M', Q z M' → Q' z M') : MetL g n d as M Q' := MetA.mono h (fun r M' ⟨z, e, q⟩ => ⟨z, e, k z M' q⟩)
theorem MetF.imp {g : AG} {n : MI} {d : Nat} {as : List AV} {M : AM} {Q Q' : UInt32 → AM → Prop} (h : MetF g n d as M Q) (k : ∀ z M', Q z M' → Q' z M') : MetF g n d as M Q' := MetA.mono h (fun r M' ⟨z, e, q⟩ => ⟨z, e, k z M' q⟩)
def mX0_init : MI := (yX0_init, cX0_init, 1, none)
def mX0_most : MI := (yX0_most, cX0_most, 9, some .int)
def mX1_init : MI := (yX1_init, cX1_init, 1, none)
def mX1_commonLetters : MI := (yX1_commonLetters, cX1_commonLetters, 4, some .int)
def mX1_fraction : MI := (yX1_fraction, cX1_fraction, 4, some .float)
def mX2_init : MI := (yX2_init, cX2_init, 1, none)
def mX2_compare : MI := (yX2_compare, cX2_compare, 2, none)
def mX2_kept : MI := (yX2_kept, cX2_kept, 3, some .int)
def mX2_notKept : MI := (yX2_notKept, cX2_notKept, 1, some .int)
def mX2_shortest : MI := (yX2_shortest, cX2_shortest, 2, some .int)
def mX2_keep : MI := (yX2_keep, cX2_keep, 3, none)
def mX2_same : MI := (yX2_same, cX2_same, 3, some .boolean)
def mX2_matchParts : MI := (yX2_matchParts, cX2_matchParts, 10, none)
def mX2_findAnchors : MI := (yX2_findAnchors, cX2_findAnchors, 8, none)
def mX2_onlyPlaceOf : MI := (yX2_onlyPlaceOf, cX2_onlyPlaceOf, 7, some .int)
def mX2_keepLongestChain : MI := (yX2_keepLongestChain, cX2_keepLongestChain, 7, some .boolean)
def mX2_measureChains : MI := (yX2_measureChains, cX2_measureChains, 7, some .int)
def mX2_matchBetweenAnchors : MI := (yX2_matchBetweenAnchors, cX2_matchBetweenAnchors, 10, none)
def mX2_keepMost : MI := (yX2_keepMost, cX2_keepMost, 7, none)
def mX2_slideGaps : MI := (yX2_slideGaps, cX2_slideGaps, 3, none)
def mX2_widenGap : MI := (yX2_widenGap, cX2_widenGap, 2, none)
def mX2_slideGap : MI := (yX2_slideGap, cX2_slideGap, 5, none)
def mX2_maySlide : MI := (yX2_maySlide, cX2_maySlide, 3, some .boolean)
def mX2_slideOnce : MI := (yX2_slideOnce, cX2_slideOnce, 3, none)
def mX3_init : MI := (yX3_init, cX3_init, 1, none)
def mX3_append : MI := (yX3_append, cX3_append, 2, some .boolean)
def mX3_firstFault : MI := (yX3_firstFault, cX3_firstFault, 2, some .int)
def mX3_isText : MI := (yX3_isText, cX3_isText, 1, some .boolean)
def mX3_readInto : MI := (yX3_readInto, cX3_readInto, 5, none)
def mX4_init : MI := (yX4_init, cX4_init, 1, none)
def mX4_clear : MI := (yX4_clear, cX4_clear, 2, none)
def mX4_append : MI := (yX4_append, cX4_append, 3, some .int)
def mX4_total : MI := (yX4_total, cX4_total, 3, some .int)
def mX5_init : MI := (yX5_init, cX5_init, 1, none)
def mX5_begin : MI := (yX5_begin, cX5_begin, 1, none)
def mX5_takes : MI := (yX5_takes, cX5_takes, 2, some .boolean)
def mX5_takesLetter : MI := (yX5_takesLetter, cX5_takesLetter, 1, some .boolean)
def mX5_takesComma : MI := (yX5_takesComma, cX5_takesComma, 1, some .boolean)
def mX5_takesSemicolon : MI := (yX5_takesSemicolon, cX5_takesSemicolon, 1, some .boolean)
def mX5_mayEnd : MI := (yX5_mayEnd, cX5_mayEnd, 1, some .boolean)
def mX5_sideMayEnd : MI := (yX5_sideMayEnd, cX5_sideMayEnd, 1, some .boolean)
def mX6_init : MI := (yX6_init, cX6_init, 1, none)
def mX6_has : MI := (yX6_has, cX6_has, 2, some .boolean)
def mX6_howManyOf : MI := (yX6_howManyOf, cX6_howManyOf, 4, some .int)
def mX6_build : MI := (yX6_build, cX6_build, 9, none)
def mX6_nextKept : MI := (yX6_nextKept, cX6_nextKept, 5, some .int)
def mX6_findChanged : MI := (yX6_findChanged, cX6_findChanged, 11, none)
def mX6_addDropped : MI := (yX6_addDropped, cX6_addDropped, 4, none)
def mX6_addAdded : MI := (yX6_addAdded, cX6_addAdded, 8, none)
def mX6_addStep : MI := (yX6_addStep, cX6_addStep, 6, none)
def mX7_init : MI := (yX7_init, cX7_init, 1, none)
def mX7_has : MI := (yX7_has, cX7_has, 3, some .boolean)
def mX7_total : MI := (yX7_total, cX7_total, 1, some .int)
def mX7_clear : MI := (yX7_clear, cX7_clear, 1, none)
def mX7_copyFrom : MI := (yX7_copyFrom, cX7_copyFrom, 3, none)
def mX7_appendLine : MI := (yX7_appendLine, cX7_appendLine, 3, none)
def mX7_insert : MI := (yX7_insert, cX7_insert, 6, none)
def mX7_remove : MI := (yX7_remove, cX7_remove, 5, none)
def mX7_exchangeLines : MI := (yX7_exchangeLines, cX7_exchangeLines, 5, none)
def mX7_exchangeSides : MI := (yX7_exchangeSides, cX7_exchangeSides, 3, none)
def mX8_init : MI := (yX8_init, cX8_init, 1, none)
def mX8_letter : MI := (yX8_letter, cX8_letter, 2, some .int)
def mX8_blank : MI := (yX8_blank, cX8_blank, 2, some .int)
def mX8_fault : MI := (yX8_fault, cX8_fault, 1, some .int)
def mX8_text : MI := (yX8_text, cX8_text, 1, some .int)
def mX8_line : MI := (yX8_line, cX8_line, 6, some .int)
def mX8_step : MI := (yX8_step, cX8_step, 3, some .int)
def mX8_letters : MI := (yX8_letters, cX8_letters, 6, some .int)
def mX8_like : MI := (yX8_like, cX8_like, 3, some .int)
def mX8_rack : MI := (yX8_rack, cX8_rack, 3, some .int)
def mX8_racked : MI := (yX8_racked, cX8_racked, 3, some .int)
def mX8_put : MI := (yX8_put, cX8_put, 4, some .int)
def mX8_take : MI := (yX8_take, cX8_take, 3, some .int)
def mX8_swap : MI := (yX8_swap, cX8_swap, 4, some .int)
def mX8_turn : MI := (yX8_turn, cX8_turn, 1, some .int)
def mX8_cost : MI := (yX8_cost, cX8_cost, 2, some .int)
def mX8_best : MI := (yX8_best, cX8_best, 6, some .int)
def mX8_all : MI := (yX8_all, cX8_all, 2, some .long)
def mX8_drawn : MI := (yX8_drawn, cX8_drawn, 8, some .int)
def mX8_image : MI := (yX8_image, cX8_image, 1, some .int)
def mX8_restore : MI := (yX8_restore, cX8_restore, 1, some .int)
def mX8_count : MI := (yX8_count, cX8_count, 2, some .int)
def mX8_digest : MI := (yX8_digest, cX8_digest, 5, some .long)
def mX8_digestOfLines : MI := (yX8_digestOfLines, cX8_digestOfLines, 8, some .long)
def mX8_digestOfScript : MI := (yX8_digestOfScript, cX8_digestOfScript, 7, some .long)
def mX8_compareAnew : MI := (yX8_compareAnew, cX8_compareAnew, 1, some .int)
def mX8_costOfPutting : MI := (yX8_costOfPutting, cX8_costOfPutting, 3, some .int)
def mX8_drawTrial : MI := (yX8_drawTrial, cX8_drawTrial, 5, some .int)
def mX8_isSide : MI := (yX8_isSide, cX8_isSide, 1, some .boolean)
def mX8_isLetter : MI := (yX8_isLetter, cX8_isLetter, 1, some .boolean)
def mX8_isLine : MI := (yX8_isLine, cX8_isLine, 3, some .boolean)
def mX8_lettersIn : MI := (yX8_lettersIn, cX8_lettersIn, 1, some .int)
def mX8_codeAt : MI := (yX8_codeAt, cX8_codeAt, 3, some .int)
def mX8_isOfKind : MI := (yX8_isOfKind, cX8_isOfKind, 4, some .boolean)
def mX8_singleBits : MI := (yX8_singleBits, cX8_singleBits, 4, some .int)
def mX8_doubleBits : MI := (yX8_doubleBits, cX8_doubleBits, 7, some .long)
def mX9_init : MI := (yX9_init, cX9_init, 2, none)
def mX9_in : MI := (yX9_in, cX9_in, 6, some .boolean)
def mX9_copy : MI := (yX9_copy, cX9_copy, 3, none)
def mX9_letter : MI := (yX9_letter, cX9_letter, 2, some .int)
def mX9_blank : MI := (yX9_blank, cX9_blank, 2, some .int)
def mX9_isGood : MI := (yX9_isGood, cX9_isGood, 3, some .boolean)
def mX9_faultOf : MI := (yX9_faultOf, cX9_faultOf, 3, some .int)
def mX9_fault : MI := (yX9_fault, cX9_fault, 1, some .int)
def mX9_text : MI := (yX9_text, cX9_text, 1, some .int)
def mX9_isSide : MI := (yX9_isSide, cX9_isSide, 1, some .boolean)
def mX9_isLine : MI := (yX9_isLine, cX9_isLine, 3, some .boolean)
def mX9_isSame : MI := (yX9_isSame, cX9_isSame, 3, some .boolean)
def mX9_addPart : MI := (yX9_addPart, cX9_addPart, 5, none)
def mX9_keep : MI := (yX9_keep, cX9_keep, 3, none)
def mX9_timesIn : MI := (yX9_timesIn, cX9_timesIn, 6, some .int)
def mX9_layAnchors : MI := (yX9_layAnchors, cX9_layAnchors, 8, some .int)
def mX9_matchAnchors : MI := (yX9_matchAnchors, cX9_matchAnchors, 11, none)
def mX9_layCan : MI := (yX9_layCan, cX9_layCan, 10, none)
def mX9_matchRows : MI := (yX9_matchRows, cX9_matchRows, 7, none)
def mX9_matchPart : MI := (yX9_matchPart, cX9_matchPart, 10, none)
def mX9_matchAll : MI := (yX9_matchAll, cX9_matchAll, 2, none)
def mX9_countGap : MI := (yX9_countGap, cX9_countGap, 4, some .int)
def mX9_countBack : MI := (yX9_countBack, cX9_countBack, 4, some .int)
def mX9_isSliding : MI := (yX9_isSliding, cX9_isSliding, 5, some .boolean)
def mX9_slide : MI := (yX9_slide, cX9_slide, 6, none)
def mX9_slideGap : MI := (yX9_slideGap, cX9_slideGap, 7, some .int)
def mX9_slideAll : MI := (yX9_slideAll, cX9_slideAll, 7, none)
def mX9_bitsOf : MI := (yX9_bitsOf, cX9_bitsOf, 13, some .long)
def mX9_lettersOf : MI := (yX9_lettersOf, cX9_lettersOf, 1, some .int)
def mX9_letterOf : MI := (yX9_letterOf, cX9_letterOf, 4, some .int)
def mX9_alike : MI := (yX9_alike, cX9_alike, 10, some .int)
def mX9_likeBits : MI := (yX9_likeBits, cX9_likeBits, 3, some .int)
def mX9_like : MI := (yX9_like, cX9_like, 3, some .int)
def mX9_addStep : MI := (yX9_addStep, cX9_addStep, 6, none)
def mX9_changeBy : MI := (yX9_changeBy, cX9_changeBy, 5, some .int)
def mX9_layGap : MI := (yX9_layGap, cX9_layGap, 8, none)
def mX9_layScript : MI := (yX9_layScript, cX9_layScript, 5, none)
def mX9_layKept : MI := (yX9_layKept, cX9_layKept, 1, none)
def mX9_isStep : MI := (yX9_isStep, cX9_isStep, 2, some .boolean)
def mX9_step : MI := (yX9_step, cX9_step, 3, some .int)
def mX9_lettersBy : MI := (yX9_lettersBy, cX9_lettersBy, 6, some .int)
def mX9_letters : MI := (yX9_letters, cX9_letters, 3, some .int)
def mX9_tellLine : MI := (yX9_tellLine, cX9_tellLine, 5, some .int)
def mX9_line : MI := (yX9_line, cX9_line, 4, some .int)
def mX9_rackedOf : MI := (yX9_rackedOf, cX9_rackedOf, 3, some .int)
def mX9_isOf : MI := (yX9_isOf, cX9_isOf, 2, some .boolean)
def mX9_rack : MI := (yX9_rack, cX9_rack, 4, some .int)
def mX9_racked : MI := (yX9_racked, cX9_racked, 3, some .int)
def mX9_isLetters : MI := (yX9_isLetters, cX9_isLetters, 3, some .boolean)
def mX9_insert : MI := (yX9_insert, cX9_insert, 5, none)
def mX9_remove : MI := (yX9_remove, cX9_remove, 4, none)
def mX9_put : MI := (yX9_put, cX9_put, 4, some .int)
def mX9_take : MI := (yX9_take, cX9_take, 3, some .int)
def mX9_swap : MI := (yX9_swap, cX9_swap, 5, some .int)
def mX9_turn : MI := (yX9_turn, cX9_turn, 3, some .int)
def mX9_keptMany : MI := (yX9_keptMany, cX9_keptMany, 3, some .int)
def mX9_costNow : MI := (yX9_costNow, cX9_costNow, 1, some .int)
def mX9_costOf : MI := (yX9_costOf, cX9_costOf, 2, some .int)
def mX9_cost : MI := (yX9_cost, cX9_cost, 2, some .int)
def mX9_bestOf : MI := (yX9_bestOf, cX9_bestOf, 6, some .int)
def mX9_best : MI := (yX9_best, cX9_best, 2, some .int)
def mX9_allOf : MI := (yX9_allOf, cX9_allOf, 2, some .long)
def mX9_all : MI := (yX9_all, cX9_all, 1, some .long)
def mX9_draw : MI := (yX9_draw, cX9_draw, 2, some .int)
def mX9_drawn : MI := (yX9_drawn, cX9_drawn, 8, some .int)
def mX9_image : MI := (yX9_image, cX9_image, 1, some .int)
def mX9_restore : MI := (yX9_restore, cX9_restore, 1, some .int)
def mX9_stepsOf : MI := (yX9_stepsOf, cX9_stepsOf, 4, some .int)
def mX9_rackedAll : MI := (yX9_rackedAll, cX9_rackedAll, 3, some .int)
def mX9_countOf : MI := (yX9_countOf, cX9_countOf, 2, some .int)
def mX9_count : MI := (yX9_count, cX9_count, 2, some .int)
def mX9_say : MI := (yX9_say, cX9_say, 3, none)
def mX9_sayText : MI := (yX9_sayText, cX9_sayText, 2, none)
def mX9_digest : MI := (yX9_digest, cX9_digest, 4, some .long)
def mL_law : MI := (yL_law, cL_law, 4, some .boolean)
theorem lay_X0_0 : u_lay RX0 TX0 0 ∈ WT := WT_mem (List.mem_append_right _ (List.mem_of_getElem? (i := 93) (by decide +kernel))) (by decide +kernel)
theorem inW_X0 : ∀ w ∈ wsX00, w ∈ WT := by
  intro w hw
  obtain ⟨k, hk, rfl⟩ := List.mem_map.mp hw
  have hk := List.mem_range.mp hk
  match k, hk with
  | 0, _ => exact lay_X0_0
  | k + 1, h => exact absurd h (by omega)
theorem cf_X0 : CF 0 RX0 TX0 1 tyX0 := ⟨rfl, inW_X0, tyX0_ok, nmX0⟩
theorem lay_X1_0 : u_lay RX1 TX1 0 ∈ WT := WT_mem (List.mem_append_right _ (List.mem_of_getElem? (i := 143) (by decide +kernel))) (by decide +kernel)
theorem lay_X1_1 : u_lay RX1 TX1 1 ∈ WT := WT_mem (List.mem_append_right _ (List.mem_of_getElem? (i := 145) (by decide +kernel))) (by decide +kernel)
theorem lay_X1_2 : u_lay RX1 TX1 2 ∈ WT := WT_mem (List.mem_append_right _ (List.mem_of_getElem? (i := 147) (by decide +kernel))) (by decide +kernel)
theorem inW_X1 : ∀ w ∈ wsX10, w ∈ WT := by
  intro w hw
  obtain ⟨k, hk, rfl⟩ := List.mem_map.mp hw
  have hk := List.mem_range.mp hk
  match k, hk with
  | 0, _ => exact lay_X1_0
  | 1, _ => exact lay_X1_1
  | 2, _ => exact lay_X1_2
  | k + 3, h => exact absurd h (by omega)
theorem cf_X1 : CF 1 RX1 TX1 3 tyX1 := ⟨rfl, inW_X1, tyX1_ok, nmX1⟩
theorem lay_X2_0 : u_lay RX2 TX2 0 ∈ WT := WT_mem (List.mem_append_right _ (List.mem_of_getElem? (i := 111) (by decide +kernel))) (by decide +kernel)
theorem lay_X2_1 : u_lay RX2 TX2 1 ∈ WT := WT_mem (List.mem_append_right _ (List.mem_of_getElem? (i := 113) (by decide +kernel))) (by decide +kernel)
theorem lay_X2_2 : u_lay RX2 TX2 2 ∈ WT := WT_mem (List.mem_append_right _ (List.mem_of_getElem? (i := 115) (by decide +kernel))) (by decide +kernel)
theorem lay_X2_3 : u_lay RX2 TX2 3 ∈ WT := WT_mem (List.mem_append_right _ (List.mem_of_getElem? (i := 117) (by decide +kernel))) (by decide +kernel)
theorem lay_X2_4 : u_lay RX2 TX2 4 ∈ WT := WT_mem (List.mem_append_right _ (List.mem_of_getElem? (i := 119) (by decide +kernel))) (by decide +kernel)
theorem lay_X2_5 : u_lay RX2 TX2 5 ∈ WT := WT_mem (List.mem_append_right _ (List.mem_of_getElem? (i := 121) (by decide +kernel))) (by decide +kernel)
theorem lay_X2_6 : u_lay RX2 TX2 6 ∈ WT := WT_mem (List.mem_append_right _ (List.mem_of_getElem? (i := 123) (by decide +kernel))) (by decide +kernel)
theorem lay_X2_7 : u_lay RX2 TX2 7 ∈ WT := WT_mem (List.mem_append_right _ (List.mem_of_getElem? (i := 125) (by decide +kernel))) (by decide +kernel)
theorem lay_X2_8 : u_lay RX2 TX2 8 ∈ WT := WT_mem (List.mem_append_right _ (List.mem_of_getElem? (i := 127) (by decide +kernel))) (by decide +kernel)
theorem inW_X2 : ∀ w ∈ wsX20, w ∈ WT := by
  intro w hw
  obtain ⟨k, hk, rfl⟩ := List.mem_map.mp hw
  have hk := List.mem_range.mp hk
  match k, hk with
  | 0, _ => exact lay_X2_0
  | 1, _ => exact lay_X2_1
  | 2, _ => exact lay_X2_2
  | 3, _ => exact lay_X2_3
  | 4, _ => exact lay_X2_4
  | 5, _ => exact lay_X2_5
  | 6, _ => exact lay_X2_6
  | 7, _ => exact lay_X2_7
  | 8, _ => exact lay_X2_8
  | k + 9, h => exact absurd h (by omega)
theorem cf_X2 : CF 2 RX2 TX2 9 tyX2 := ⟨rfl, inW_X2, tyX2_ok, nmX2⟩
theorem lay_X3_0 : u_lay RX3 TX3 0 ∈ WT := WT_mem (List.mem_append_right _ (List.mem_of_getElem? (i := 49) (by decide +kernel))) (by decide +kernel)
theorem lay_X3_1 : u_lay RX3 TX3 1 ∈ WT := WT_mem (List.mem_append_right _ (List.mem_of_getElem? (i := 51) (by decide +kernel))) (by decide +kernel)
theorem lay_X3_2 : u_lay RX3 TX3 2 ∈ WT := WT_mem (List.mem_append_right _ (List.mem_of_getElem? (i := 53) (by decide +kernel))) (by decide +kernel)
theorem inW_X3 : ∀ w ∈ wsX30, w ∈ WT := by
  intro w hw
  obtain ⟨k, hk, rfl⟩ := List.mem_map.mp hw
  have hk := List.mem_range.mp hk
  match k, hk with
  | 0, _ => exact lay_X3_0
  | 1, _ => exact lay_X3_1
  | 2, _ => exact lay_X3_2
  | k + 3, h => exact absurd h (by omega)
theorem cf_X3 : CF 3 RX3 TX3 3 tyX3 := ⟨rfl, inW_X3, tyX3_ok, nmX3⟩
theorem lay_X4_0 : u_lay RX4 TX4 0 ∈ WT := WT_mem (List.mem_append_right _ (List.mem_of_getElem? (i := 201) (by decide +kernel))) (by decide +kernel)
theorem lay_X4_1 : u_lay RX4 TX4 1 ∈ WT := WT_mem (List.mem_append_right _ (List.mem_of_getElem? (i := 203) (by decide +kernel))) (by decide +kernel)
theorem inW_X4 : ∀ w ∈ wsX40, w ∈ WT := by
  intro w hw
  obtain ⟨k, hk, rfl⟩ := List.mem_map.mp hw
  have hk := List.mem_range.mp hk
  match k, hk with
  | 0, _ => exact lay_X4_0
  | 1, _ => exact lay_X4_1
  | k + 2, h => exact absurd h (by omega)
theorem cf_X4 : CF 4 RX4 TX4 2 tyX4 := ⟨rfl, inW_X4, tyX4_ok, nmX4⟩
theorem lay_X5_0 : u_lay RX5 TX5 0 ∈ WT := WT_mem (List.mem_append_right _ (List.mem_of_getElem? (i := 36) (by decide +kernel))) (by decide +kernel)
theorem lay_X5_1 : u_lay RX5 TX5 1 ∈ WT := WT_mem (List.mem_append_right _ (List.mem_of_getElem? (i := 38) (by decide +kernel))) (by decide +kernel)
theorem lay_X5_2 : u_lay RX5 TX5 2 ∈ WT := WT_mem (List.mem_append_right _ (List.mem_of_getElem? (i := 40) (by decide +kernel))) (by decide +kernel)
theorem inW_X5 : ∀ w ∈ wsX50, w ∈ WT := by
  intro w hw
  obtain ⟨k, hk, rfl⟩ := List.mem_map.mp hw
  have hk := List.mem_range.mp hk
  match k, hk with
  | 0, _ => exact lay_X5_0
  | 1, _ => exact lay_X5_1
  | 2, _ => exact lay_X5_2
  | k + 3, h => exact absurd h (by omega)
theorem cf_X5 : CF 5 RX5 TX5 3 tyX5 := ⟨rfl, inW_X5, tyX5_ok, nmX5⟩
theorem lay_X6_0 : u_lay RX6 TX6 0 ∈ WT := WT_mem (List.mem_append_right _ (List.mem_of_getElem? (i := 173) (by decide +kernel))) (by decide +kernel)
theorem lay_X6_1 : u_lay RX6 TX6 1 ∈ WT := WT_mem (List.mem_append_right _ (List.mem_of_getElem? (i := 175) (by decide +kernel))) (by decide +kernel)
theorem lay_X6_2 : u_lay RX6 TX6 2 ∈ WT := WT_mem (List.mem_append_right _ (List.mem_of_getElem? (i := 177) (by decide +kernel))) (by decide +kernel)
theorem lay_X6_3 : u_lay RX6 TX6 3 ∈ WT := WT_mem (List.mem_append_right _ (List.mem_of_getElem? (i := 179) (by decide +kernel))) (by decide +kernel)
theorem lay_X6_4 : u_lay RX6 TX6 4 ∈ WT := WT_mem (List.mem_append_right _ (List.mem_of_getElem? (i := 181) (by decide +kernel))) (by decide +kernel)
theorem lay_X6_5 : u_lay RX6 TX6 5 ∈ WT := WT_mem (List.mem_append_right _ (List.mem_of_getElem? (i := 183) (by decide +kernel))) (by decide +kernel)
theorem lay_X6_6 : u_lay RX6 TX6 6 ∈ WT := WT_mem (List.mem_append_right _ (List.mem_of_getElem? (i := 185) (by decide +kernel))) (by decide +kernel)
theorem lay_X6_7 : u_lay RX6 TX6 7 ∈ WT := WT_mem (List.mem_append_right _ (List.mem_of_getElem? (i := 187) (by decide +kernel))) (by decide +kernel)
theorem inW_X6 : ∀ w ∈ wsX60, w ∈ WT := by
  intro w hw
  obtain ⟨k, hk, rfl⟩ := List.mem_map.mp hw
  have hk := List.mem_range.mp hk
  match k, hk with
  | 0, _ => exact lay_X6_0
  | 1, _ => exact lay_X6_1
  | 2, _ => exact lay_X6_2
  | 3, _ => exact lay_X6_3
  | 4, _ => exact lay_X6_4
  | 5, _ => exact lay_X6_5
  | 6, _ => exact lay_X6_6
  | 7, _ => exact lay_X6_7
  | k + 8, h => exact absurd h (by omega)
theorem cf_X6 : CF 6 RX6 TX6 8 tyX6 := ⟨rfl, inW_X6, tyX6_ok, nmX6⟩
theorem lay_X7_0 : u_lay RX7 TX7 0 ∈ WT := WT_mem (List.mem_append_right _ (List.mem_of_getElem? (i := 78) (by decide +kernel))) (by decide +kernel)
theorem lay_X7_1 : u_lay RX7 TX7 1 ∈ WT := WT_mem (List.mem_append_right _ (List.mem_of_getElem? (i := 80) (by decide +kernel))) (by decide +kernel)
theorem inW_X7 : ∀ w ∈ wsX70, w ∈ WT := by
  intro w hw
  obtain ⟨k, hk, rfl⟩ := List.mem_map.mp hw
  have hk := List.mem_range.mp hk
  match k, hk with
  | 0, _ => exact lay_X7_0
  | 1, _ => exact lay_X7_1
  | k + 2, h => exact absurd h (by omega)
theorem cf_X7 : CF 7 RX7 TX7 2 tyX7 := ⟨rfl, inW_X7, tyX7_ok, nmX7⟩
theorem lay_X8_0 : u_lay RX8 TX8 0 ∈ WT := WT_mem (List.mem_append_right _ (List.mem_of_getElem? (i := 217) (by decide +kernel))) (by decide +kernel)
theorem lay_X8_1 : u_lay RX8 TX8 1 ∈ WT := WT_mem (List.mem_append_right _ (List.mem_of_getElem? (i := 219) (by decide +kernel))) (by decide +kernel)
theorem lay_X8_2 : u_lay RX8 TX8 2 ∈ WT := WT_mem (List.mem_append_right _ (List.mem_of_getElem? (i := 221) (by decide +kernel))) (by decide +kernel)
theorem lay_X8_3 : u_lay RX8 TX8 3 ∈ WT := WT_mem (List.mem_append_right _ (List.mem_of_getElem? (i := 223) (by decide +kernel))) (by decide +kernel)
theorem lay_X8_4 : u_lay RX8 TX8 4 ∈ WT := WT_mem (List.mem_append_right _ (List.mem_of_getElem? (i := 225) (by decide +kernel))) (by decide +kernel)
theorem lay_X8_5 : u_lay RX8 TX8 5 ∈ WT := WT_mem (List.mem_append_right _ (List.mem_of_getElem? (i := 227) (by decide +kernel))) (by decide +kernel)
theorem lay_X8_6 : u_lay RX8 TX8 6 ∈ WT := WT_mem (List.mem_append_right _ (List.mem_of_getElem? (i := 229) (by decide +kernel))) (by decide +kernel)
theorem lay_X8_7 : u_lay RX8 TX8 7 ∈ WT := WT_mem (List.mem_append_right _ (List.mem_of_getElem? (i := 231) (by decide +kernel))) (by decide +kernel)
theorem lay_X8_8 : u_lay RX8 TX8 8 ∈ WT := WT_mem (List.mem_append_right _ (List.mem_of_getElem? (i := 233) (by decide +kernel))) (by decide +kernel)
theorem lay_X8_9 : u_lay RX8 TX8 9 ∈ WT := WT_mem (List.mem_append_right _ (List.mem_of_getElem? (i := 235) (by decide +kernel))) (by decide +kernel)
theorem lay_X8_10 : u_lay RX8 TX8 10 ∈ WT := WT_mem (List.mem_append_right _ (List.mem_of_getElem? (i := 237) (by decide +kernel))) (by decide +kernel)
theorem inW_X8 : ∀ w ∈ wsX80, w ∈ WT := by
  intro w hw
  obtain ⟨k, hk, rfl⟩ := List.mem_map.mp hw
  have hk := List.mem_range.mp hk
  match k, hk with
  | 0, _ => exact lay_X8_0
  | 1, _ => exact lay_X8_1
  | 2, _ => exact lay_X8_2
  | 3, _ => exact lay_X8_3
  | 4, _ => exact lay_X8_4
  | 5, _ => exact lay_X8_5
  | 6, _ => exact lay_X8_6
  | 7, _ => exact lay_X8_7
  | 8, _ => exact lay_X8_8
  | 9, _ => exact lay_X8_9
  | 10, _ => exact lay_X8_10
  | k + 11, h => exact absurd h (by omega)
theorem cf_X8 : CF 8 RX8 TX8 11 tyX8 := ⟨rfl, inW_X8, tyX8_ok, nmX8⟩
theorem lay_X9_0 : u_lay RX9 TX9 0 ∈ WT := WT_mem (List.mem_append_right _ (List.mem_of_getElem? (i := 667) (by decide +kernel))) (by decide +kernel)
theorem lay_X9_1 : u_lay RX9 TX9 1 ∈ WT := WT_mem (List.mem_append_right _ (List.mem_of_getElem? (i := 669) (by decide +kernel))) (by decide +kernel)
theorem lay_X9_2 : u_lay RX9 TX9 2 ∈ WT := WT_mem (List.mem_append_right _ (List.mem_of_getElem? (i := 671) (by decide +kernel))) (by decide +kernel)
theorem lay_X9_3 : u_lay RX9 TX9 3 ∈ WT := WT_mem (List.mem_append_right _ (List.mem_of_getElem? (i := 673) (by decide +kernel))) (by decide +kernel)
theorem lay_X9_4 : u_lay RX9 TX9 4 ∈ WT := WT_mem (List.mem_append_right _ (List.mem_of_getElem? (i := 675) (by decide +kernel))) (by decide +kernel)
theorem lay_X9_5 : u_lay RX9 TX9 5 ∈ WT := WT_mem (List.mem_append_right _ (List.mem_of_getElem? (i := 677) (by decide +kernel))) (by decide +kernel)
theorem lay_X9_6 : u_lay RX9 TX9 6 ∈ WT := WT_mem (List.mem_append_right _ (List.mem_of_getElem? (i := 679) (by decide +kernel))) (by decide +kernel)
theorem lay_X9_7 : u_lay RX9 TX9 7 ∈ WT := WT_mem (List.mem_append_right _ (List.mem_of_getElem? (i := 681) (by decide +kernel))) (by decide +kernel)
theorem lay_X9_8 : u_lay RX9 TX9 8 ∈ WT := WT_mem (List.mem_append_right _ (List.mem_of_getElem? (i := 683) (by decide +kernel))) (by decide +kernel)
theorem lay_X9_9 : u_lay RX9 TX9 9 ∈ WT := WT_mem (List.mem_append_right _ (List.mem_of_getElem? (i := 685) (by decide +kernel))) (by decide +kernel)
theorem lay_X9_10 : u_lay RX9 TX9 10 ∈ WT := WT_mem (List.mem_append_right _ (List.mem_of_getElem? (i := 687) (by decide +kernel))) (by decide +kernel)
theorem lay_X9_11 : u_lay RX9 TX9 11 ∈ WT := WT_mem (List.mem_append_right _ (List.mem_of_getElem? (i := 689) (by decide +kernel))) (by decide +kernel)
theorem lay_X9_12 : u_lay RX9 TX9 12 ∈ WT := WT_mem (List.mem_append_right _ (List.mem_of_getElem? (i := 691) (by decide +kernel))) (by decide +kernel)
theorem lay_X9_13 : u_lay RX9 TX9 13 ∈ WT := WT_mem (List.mem_append_right _ (List.mem_of_getElem? (i := 693) (by decide +kernel))) (by decide +kernel)
theorem lay_X9_14 : u_lay RX9 TX9 14 ∈ WT := WT_mem (List.mem_append_right _ (List.mem_of_getElem? (i := 695) (by decide +kernel))) (by decide +kernel)
theorem lay_X9_15 : u_lay RX9 TX9 15 ∈ WT := WT_mem (List.mem_append_right _ (List.mem_of_getElem? (i := 697) (by decide +kernel))) (by decide +kernel)
theorem lay_X9_16 : u_lay RX9 TX9 16 ∈ WT := WT_mem (List.mem_append_right _ (List.mem_of_getElem? (i := 699) (by decide +kernel))) (by decide +kernel)
theorem lay_X9_17 : u_lay RX9 TX9 17 ∈ WT := WT_mem (List.mem_append_right _ (List.mem_of_getElem? (i := 701) (by decide +kernel))) (by decide +kernel)
theorem lay_X9_18 : u_lay RX9 TX9 18 ∈ WT := WT_mem (List.mem_append_right _ (List.mem_of_getElem? (i := 703) (by decide +kernel))) (by decide +kernel)
theorem lay_X9_19 : u_lay RX9 TX9 19 ∈ WT := WT_mem (List.mem_append_right _ (List.mem_of_getElem? (i := 705) (by decide +kernel))) (by decide +kernel)
theorem lay_X9_20 : u_lay RX9 TX9 20 ∈ WT := WT_mem (List.mem_append_right _ (List.mem_of_getElem? (i := 707) (by decide +kernel))) (by decide +kernel)
theorem lay_X9_21 : u_lay RX9 TX9 21 ∈ WT := WT_mem (List.mem_append_right _ (List.mem_of_getElem? (i := 709) (by decide +kernel))) (by decide +kernel)
theorem lay_X9_22 : u_lay RX9 TX9 22 ∈ WT := WT_mem (List.mem_append_right _ (List.mem_of_getElem? (i := 711) (by decide +kernel))) (by decide +kernel)
theorem lay_X9_23 : u_lay RX9 TX9 23 ∈ WT := WT_mem (List.mem_append_right _ (List.mem_of_getElem? (i := 713) (by decide +kernel))) (by decide +kernel)
theorem lay_X9_24 : u_lay RX9 TX9 24 ∈ WT := WT_mem (List.mem_append_right _ (List.mem_of_getElem? (i := 715) (by decide +kernel))) (by decide +kernel)
theorem lay_X9_25 : u_lay RX9 TX9 25 ∈ WT := WT_mem (List.mem_append_right _ (List.mem_of_getElem? (i := 717) (by decide +kernel))) (by decide +kernel)
theorem lay_X9_26 : u_lay RX9 TX9 26 ∈ WT := WT_mem (List.mem_append_right _ (List.mem_of_getElem? (i := 719) (by decide +kernel))) (by decide +kernel)
theorem lay_X9_27 : u_lay RX9 TX9 27 ∈ WT := WT_mem (List.mem_append_right _ (List.mem_of_getElem? (i := 721) (by decide +kernel))) (by decide +kernel)
theorem lay_X9_28 : u_lay RX9 TX9 28 ∈ WT := WT_mem (List.mem_append_right _ (List.mem_of_getElem? (i := 723) (by decide +kernel))) (by decide +kernel)
theorem lay_X9_29 : u_lay RX9 TX9 29 ∈ WT := WT_mem (List.mem_append_right _ (List.mem_of_getElem? (i := 725) (by decide +kernel))) (by decide +kernel)
theorem lay_X9_30 : u_lay RX9 TX9 30 ∈ WT := WT_mem (List.mem_append_right _ (List.mem_of_getElem? (i := 727) (by decide +kernel))) (by decide +kernel)
theorem lay_X9_31 : u_lay RX9 TX9 31 ∈ WT := WT_mem (List.mem_append_right _ (List.mem_of_getElem? (i := 729) (by decide +kernel))) (by decide +kernel)
theorem lay_X9_32 : u_lay RX9 TX9 32 ∈ WT := WT_mem (List.mem_append_right _ (List.mem_of_getElem? (i := 731) (by decide +kernel))) (by decide +kernel)
theorem inW_X9 : ∀ w ∈ wsX90, w ∈ WT := by
  intro w hw
  obtain ⟨k, hk, rfl⟩ := List.mem_map.mp hw
  have hk := List.mem_range.mp hk
  match k, hk with
  | 0, _ => exact lay_X9_0
  | 1, _ => exact lay_X9_1
  | 2, _ => exact lay_X9_2
  | 3, _ => exact lay_X9_3
  | 4, _ => exact lay_X9_4
  | 5, _ => exact lay_X9_5
  | 6, _ => exact lay_X9_6
  | 7, _ => exact lay_X9_7
  | 8, _ => exact lay_X9_8
  | 9, _ => exact lay_X9_9
  | 10, _ => exact lay_X9_10
  | 11, _ => exact lay_X9_11
  | 12, _ => exact lay_X9_12
  | 13, _ => exact lay_X9_13
  | 14, _ => exact lay_X9_14
  | 15, _ => exact lay_X9_15
  | 16, _ => exact lay_X9_16
  | 17, _ => exact lay_X9_17
  | 18, _ => exact lay_X9_18
  | 19, _ => exact lay_X9_19
  | 20, _ => exact lay_X9_20
  | 21, _ => exact lay_X9_21
  | 22, _ => exact lay_X9_22
  | 23, _ => exact lay_X9_23
  | 24, _ => exact lay_X9_24
  | 25, _ => exact lay_X9_25
  | 26, _ => exact lay_X9_26
  | 27, _ => exact lay_X9_27
  | 28, _ => exact lay_X9_28
  | 29, _ => exact lay_X9_29
  | 30, _ => exact lay_X9_30
  | 31, _ => exact lay_X9_31
  | 32, _ => exact lay_X9_32
  | k + 33, h => exact absurd h (by omega)
theorem cf_X9 : CF 9 RX9 TX9 33 tyX9 := ⟨rfl, inW_X9, tyX9_ok, nmX9⟩
theorem lk_X5_9 : LK RX5 9 (TX5 0) := Or.inl (WT_mem (List.mem_append_right _ (List.mem_of_getElem? (i := 33) (by decide +kernel))) (by decide +kernel))
theorem lk_X5_15 : LK RX5 15 (TX5 1) := Or.inl (WT_mem (List.mem_append_right _ (List.mem_of_getElem? (i := 34) (by decide +kernel))) (by decide +kernel))
theorem lk_X5_18 : LK RX5 18 (TX5 2) := Or.inl (WT_mem (List.mem_append_right _ (List.mem_of_getElem? (i := 35) (by decide +kernel))) (by decide +kernel))
theorem lk_X3_9 : LK RX3 9 (TX3 0) := Or.inl (WT_mem (List.mem_append_right _ (List.mem_of_getElem? (i := 44) (by decide +kernel))) (by decide +kernel))
theorem lk_X8_235 : LK RX8 235 (TX3 0) := Or.inr ⟨"LineScript", List.mem_append_right _ (List.mem_of_getElem? (i := 45) (by decide +kernel))⟩
theorem lk_X3_18 : LK RX3 18 (TX3 1) := Or.inl (WT_mem (List.mem_append_right _ (List.mem_of_getElem? (i := 46) (by decide +kernel))) (by decide +kernel))
theorem lk_X3_22 : LK RX3 22 (TX3 2) := Or.inl (WT_mem (List.mem_append_right _ (List.mem_of_getElem? (i := 47) (by decide +kernel))) (by decide +kernel))
theorem lk_X8_73 : LK RX8 73 (TX3 2) := Or.inr ⟨"LineScript", List.mem_append_right _ (List.mem_of_getElem? (i := 48) (by decide +kernel))⟩
theorem lk_X7_11 : LK RX7 11 (TX7 0) := Or.inl (WT_mem (List.mem_append_right _ (List.mem_of_getElem? (i := 70) (by decide +kernel))) (by decide +kernel))
theorem lk_X2_67 : LK RX2 67 (TX7 0) := Or.inr ⟨"LineScript", List.mem_append_right _ (List.mem_of_getElem? (i := 71) (by decide +kernel))⟩
theorem lk_X8_98 : LK RX8 98 (TX7 0) := Or.inr ⟨"LineScript", List.mem_append_right _ (List.mem_of_getElem? (i := 72) (by decide +kernel))⟩
theorem lk_X6_78 : LK RX6 78 (TX7 0) := Or.inr ⟨"LineScript", List.mem_append_right _ (List.mem_of_getElem? (i := 73) (by decide +kernel))⟩
theorem lk_X7_16 : LK RX7 16 (TX7 1) := Or.inl (WT_mem (List.mem_append_right _ (List.mem_of_getElem? (i := 74) (by decide +kernel))) (by decide +kernel))
theorem lk_X2_50 : LK RX2 50 (TX7 1) := Or.inr ⟨"LineScript", List.mem_append_right _ (List.mem_of_getElem? (i := 75) (by decide +kernel))⟩
theorem lk_X6_61 : LK RX6 61 (TX7 1) := Or.inr ⟨"LineScript", List.mem_append_right _ (List.mem_of_getElem? (i := 76) (by decide +kernel))⟩
theorem lk_X8_158 : LK RX8 158 (TX7 1) := Or.inr ⟨"LineScript", List.mem_append_right _ (List.mem_of_getElem? (i := 77) (by decide +kernel))⟩
theorem lk_X0_11 : LK RX0 11 (TX0 0) := Or.inl (WT_mem (List.mem_append_right _ (List.mem_of_getElem? (i := 91) (by decide +kernel))) (by decide +kernel))
theorem lk_X2_108 : LK RX2 108 (TX0 0) := Or.inr ⟨"LineScript", List.mem_append_right _ (List.mem_of_getElem? (i := 92) (by decide +kernel))⟩
theorem lk_X2_12 : LK RX2 12 (TX2 0) := Or.inl (WT_mem (List.mem_append_right _ (List.mem_of_getElem? (i := 96) (by decide +kernel))) (by decide +kernel))
theorem lk_X8_23 : LK RX8 23 (TX2 0) := Or.inr ⟨"LineScript", List.mem_append_right _ (List.mem_of_getElem? (i := 97) (by decide +kernel))⟩
theorem lk_X6_39 : LK RX6 39 (TX2 0) := Or.inr ⟨"LineScript", List.mem_append_right _ (List.mem_of_getElem? (i := 98) (by decide +kernel))⟩
theorem lk_X2_20 : LK RX2 20 (TX2 1) := Or.inl (WT_mem (List.mem_append_right _ (List.mem_of_getElem? (i := 99) (by decide +kernel))) (by decide +kernel))
theorem lk_X6_69 : LK RX6 69 (TX2 1) := Or.inr ⟨"LineScript", List.mem_append_right _ (List.mem_of_getElem? (i := 100) (by decide +kernel))⟩
theorem lk_X8_110 : LK RX8 110 (TX2 1) := Or.inr ⟨"LineScript", List.mem_append_right _ (List.mem_of_getElem? (i := 101) (by decide +kernel))⟩
theorem lk_X2_26 : LK RX2 26 (TX2 2) := Or.inl (WT_mem (List.mem_append_right _ (List.mem_of_getElem? (i := 102) (by decide +kernel))) (by decide +kernel))
theorem lk_X2_30 : LK RX2 30 (TX2 3) := Or.inl (WT_mem (List.mem_append_right _ (List.mem_of_getElem? (i := 103) (by decide +kernel))) (by decide +kernel))
theorem lk_X2_34 : LK RX2 34 (TX2 4) := Or.inl (WT_mem (List.mem_append_right _ (List.mem_of_getElem? (i := 104) (by decide +kernel))) (by decide +kernel))
theorem lk_X2_37 : LK RX2 37 (TX2 5) := Or.inl (WT_mem (List.mem_append_right _ (List.mem_of_getElem? (i := 105) (by decide +kernel))) (by decide +kernel))
theorem lk_X2_40 : LK RX2 40 (TX2 6) := Or.inl (WT_mem (List.mem_append_right _ (List.mem_of_getElem? (i := 106) (by decide +kernel))) (by decide +kernel))
theorem lk_X2_43 : LK RX2 43 (TX2 7) := Or.inl (WT_mem (List.mem_append_right _ (List.mem_of_getElem? (i := 107) (by decide +kernel))) (by decide +kernel))
theorem lk_X8_185 : LK RX8 185 (TX2 7) := Or.inr ⟨"LineScript", List.mem_append_right _ (List.mem_of_getElem? (i := 108) (by decide +kernel))⟩
theorem lk_X2_47 : LK RX2 47 (TX2 8) := Or.inl (WT_mem (List.mem_append_right _ (List.mem_of_getElem? (i := 109) (by decide +kernel))) (by decide +kernel))
theorem lk_X8_182 : LK RX8 182 (TX2 8) := Or.inr ⟨"LineScript", List.mem_append_right _ (List.mem_of_getElem? (i := 110) (by decide +kernel))⟩
theorem lk_X1_12 : LK RX1 12 (TX1 0) := Or.inl (WT_mem (List.mem_append_right _ (List.mem_of_getElem? (i := 140) (by decide +kernel))) (by decide +kernel))
theorem lk_X1_18 : LK RX1 18 (TX1 1) := Or.inl (WT_mem (List.mem_append_right _ (List.mem_of_getElem? (i := 141) (by decide +kernel))) (by decide +kernel))
theorem lk_X1_22 : LK RX1 22 (TX1 2) := Or.inl (WT_mem (List.mem_append_right _ (List.mem_of_getElem? (i := 142) (by decide +kernel))) (by decide +kernel))
theorem lk_X6_9 : LK RX6 9 (TX6 0) := Or.inl (WT_mem (List.mem_append_right _ (List.mem_of_getElem? (i := 157) (by decide +kernel))) (by decide +kernel))
theorem lk_X8_118 : LK RX8 118 (TX6 0) := Or.inr ⟨"LineScript", List.mem_append_right _ (List.mem_of_getElem? (i := 158) (by decide +kernel))⟩
theorem lk_X6_15 : LK RX6 15 (TX6 1) := Or.inl (WT_mem (List.mem_append_right _ (List.mem_of_getElem? (i := 159) (by decide +kernel))) (by decide +kernel))
theorem lk_X8_122 : LK RX8 122 (TX6 1) := Or.inr ⟨"LineScript", List.mem_append_right _ (List.mem_of_getElem? (i := 160) (by decide +kernel))⟩
theorem lk_X6_18 : LK RX6 18 (TX6 2) := Or.inl (WT_mem (List.mem_append_right _ (List.mem_of_getElem? (i := 161) (by decide +kernel))) (by decide +kernel))
theorem lk_X8_125 : LK RX8 125 (TX6 2) := Or.inr ⟨"LineScript", List.mem_append_right _ (List.mem_of_getElem? (i := 162) (by decide +kernel))⟩
theorem lk_X6_21 : LK RX6 21 (TX6 3) := Or.inl (WT_mem (List.mem_append_right _ (List.mem_of_getElem? (i := 163) (by decide +kernel))) (by decide +kernel))
theorem lk_X8_128 : LK RX8 128 (TX6 3) := Or.inr ⟨"LineScript", List.mem_append_right _ (List.mem_of_getElem? (i := 164) (by decide +kernel))⟩
theorem lk_X6_24 : LK RX6 24 (TX6 4) := Or.inl (WT_mem (List.mem_append_right _ (List.mem_of_getElem? (i := 165) (by decide +kernel))) (by decide +kernel))
theorem lk_X8_131 : LK RX8 131 (TX6 4) := Or.inr ⟨"LineScript", List.mem_append_right _ (List.mem_of_getElem? (i := 166) (by decide +kernel))⟩
theorem lk_X6_29 : LK RX6 29 (TX6 5) := Or.inl (WT_mem (List.mem_append_right _ (List.mem_of_getElem? (i := 167) (by decide +kernel))) (by decide +kernel))
theorem lk_X8_113 : LK RX8 113 (TX6 5) := Or.inr ⟨"LineScript", List.mem_append_right _ (List.mem_of_getElem? (i := 168) (by decide +kernel))⟩
theorem lk_X6_32 : LK RX6 32 (TX6 6) := Or.inl (WT_mem (List.mem_append_right _ (List.mem_of_getElem? (i := 169) (by decide +kernel))) (by decide +kernel))
theorem lk_X8_209 : LK RX8 209 (TX6 6) := Or.inr ⟨"LineScript", List.mem_append_right _ (List.mem_of_getElem? (i := 170) (by decide +kernel))⟩
theorem lk_X6_36 : LK RX6 36 (TX6 7) := Or.inl (WT_mem (List.mem_append_right _ (List.mem_of_getElem? (i := 171) (by decide +kernel))) (by decide +kernel))
theorem lk_X8_188 : LK RX8 188 (TX6 7) := Or.inr ⟨"LineScript", List.mem_append_right _ (List.mem_of_getElem? (i := 172) (by decide +kernel))⟩
theorem lk_X4_11 : LK RX4 11 (TX4 0) := Or.inl (WT_mem (List.mem_append_right _ (List.mem_of_getElem? (i := 197) (by decide +kernel))) (by decide +kernel))
theorem lk_X8_152 : LK RX8 152 (TX4 0) := Or.inr ⟨"LineScript", List.mem_append_right _ (List.mem_of_getElem? (i := 198) (by decide +kernel))⟩
theorem lk_X4_16 : LK RX4 16 (TX4 1) := Or.inl (WT_mem (List.mem_append_right _ (List.mem_of_getElem? (i := 199) (by decide +kernel))) (by decide +kernel))
theorem lk_X8_148 : LK RX8 148 (TX4 1) := Or.inr ⟨"LineScript", List.mem_append_right _ (List.mem_of_getElem? (i := 200) (by decide +kernel))⟩
theorem lk_X8_10 : LK RX8 10 (TX8 0) := Or.inl (WT_mem (List.mem_append_right _ (List.mem_of_getElem? (i := 206) (by decide +kernel))) (by decide +kernel))
theorem lk_X8_19 : LK RX8 19 (TX8 1) := Or.inl (WT_mem (List.mem_append_right _ (List.mem_of_getElem? (i := 207) (by decide +kernel))) (by decide +kernel))
theorem lk_X8_27 : LK RX8 27 (TX8 2) := Or.inl (WT_mem (List.mem_append_right _ (List.mem_of_getElem? (i := 208) (by decide +kernel))) (by decide +kernel))
theorem lk_X8_28 : LK RX8 28 (TX8 3) := Or.inl (WT_mem (List.mem_append_right _ (List.mem_of_getElem? (i := 209) (by decide +kernel))) (by decide +kernel))
theorem lk_X8_34 : LK RX8 34 (TX8 4) := Or.inl (WT_mem (List.mem_append_right _ (List.mem_of_getElem? (i := 210) (by decide +kernel))) (by decide +kernel))
theorem lk_X8_40 : LK RX8 40 (TX8 5) := Or.inl (WT_mem (List.mem_append_right _ (List.mem_of_getElem? (i := 211) (by decide +kernel))) (by decide +kernel))
theorem lk_X8_47 : LK RX8 47 (TX8 6) := Or.inl (WT_mem (List.mem_append_right _ (List.mem_of_getElem? (i := 212) (by decide +kernel))) (by decide +kernel))
theorem lk_X8_54 : LK RX8 54 (TX8 7) := Or.inl (WT_mem (List.mem_append_right _ (List.mem_of_getElem? (i := 213) (by decide +kernel))) (by decide +kernel))
theorem lk_X8_58 : LK RX8 58 (TX8 8) := Or.inl (WT_mem (List.mem_append_right _ (List.mem_of_getElem? (i := 214) (by decide +kernel))) (by decide +kernel))
theorem lk_X8_62 : LK RX8 62 (TX8 9) := Or.inl (WT_mem (List.mem_append_right _ (List.mem_of_getElem? (i := 215) (by decide +kernel))) (by decide +kernel))
theorem lk_X8_65 : LK RX8 65 (TX8 10) := Or.inl (WT_mem (List.mem_append_right _ (List.mem_of_getElem? (i := 216) (by decide +kernel))) (by decide +kernel))
theorem lk_X9_7 : LK RX9 7 (TX9 0) := Or.inl (WT_mem (List.mem_append_right _ (List.mem_of_getElem? (i := 634) (by decide +kernel))) (by decide +kernel))
theorem lk_X9_77 : LK RX9 77 (TX9 1) := Or.inl (WT_mem (List.mem_append_right _ (List.mem_of_getElem? (i := 635) (by decide +kernel))) (by decide +kernel))
theorem lk_X9_87 : LK RX9 87 (TX9 2) := Or.inl (WT_mem (List.mem_append_right _ (List.mem_of_getElem? (i := 636) (by decide +kernel))) (by decide +kernel))
theorem lk_X9_84 : LK RX9 84 (TX9 3) := Or.inl (WT_mem (List.mem_append_right _ (List.mem_of_getElem? (i := 637) (by decide +kernel))) (by decide +kernel))
theorem lk_X9_13 : LK RX9 13 (TX9 4) := Or.inl (WT_mem (List.mem_append_right _ (List.mem_of_getElem? (i := 638) (by decide +kernel))) (by decide +kernel))
theorem lk_X9_16 : LK RX9 16 (TX9 5) := Or.inl (WT_mem (List.mem_append_right _ (List.mem_of_getElem? (i := 639) (by decide +kernel))) (by decide +kernel))
theorem lk_X9_90 : LK RX9 90 (TX9 6) := Or.inl (WT_mem (List.mem_append_right _ (List.mem_of_getElem? (i := 640) (by decide +kernel))) (by decide +kernel))
theorem lk_X9_19 : LK RX9 19 (TX9 7) := Or.inl (WT_mem (List.mem_append_right _ (List.mem_of_getElem? (i := 641) (by decide +kernel))) (by decide +kernel))
theorem lk_X9_22 : LK RX9 22 (TX9 8) := Or.inl (WT_mem (List.mem_append_right _ (List.mem_of_getElem? (i := 642) (by decide +kernel))) (by decide +kernel))
theorem lk_X9_106 : LK RX9 106 (TX9 9) := Or.inl (WT_mem (List.mem_append_right _ (List.mem_of_getElem? (i := 643) (by decide +kernel))) (by decide +kernel))
theorem lk_X9_109 : LK RX9 109 (TX9 10) := Or.inl (WT_mem (List.mem_append_right _ (List.mem_of_getElem? (i := 644) (by decide +kernel))) (by decide +kernel))
theorem lk_X9_25 : LK RX9 25 (TX9 11) := Or.inl (WT_mem (List.mem_append_right _ (List.mem_of_getElem? (i := 645) (by decide +kernel))) (by decide +kernel))
theorem lk_X9_133 : LK RX9 133 (TX9 12) := Or.inl (WT_mem (List.mem_append_right _ (List.mem_of_getElem? (i := 646) (by decide +kernel))) (by decide +kernel))
theorem lk_X9_157 : LK RX9 157 (TX9 13) := Or.inl (WT_mem (List.mem_append_right _ (List.mem_of_getElem? (i := 647) (by decide +kernel))) (by decide +kernel))
theorem lk_X9_28 : LK RX9 28 (TX9 14) := Or.inl (WT_mem (List.mem_append_right _ (List.mem_of_getElem? (i := 648) (by decide +kernel))) (by decide +kernel))
theorem lk_X9_118 : LK RX9 118 (TX9 15) := Or.inl (WT_mem (List.mem_append_right _ (List.mem_of_getElem? (i := 649) (by decide +kernel))) (by decide +kernel))
theorem lk_X9_31 : LK RX9 31 (TX9 16) := Or.inl (WT_mem (List.mem_append_right _ (List.mem_of_getElem? (i := 650) (by decide +kernel))) (by decide +kernel))
theorem lk_X9_34 : LK RX9 34 (TX9 17) := Or.inl (WT_mem (List.mem_append_right _ (List.mem_of_getElem? (i := 651) (by decide +kernel))) (by decide +kernel))
theorem lk_X9_37 : LK RX9 37 (TX9 18) := Or.inl (WT_mem (List.mem_append_right _ (List.mem_of_getElem? (i := 652) (by decide +kernel))) (by decide +kernel))
theorem lk_X9_40 : LK RX9 40 (TX9 19) := Or.inl (WT_mem (List.mem_append_right _ (List.mem_of_getElem? (i := 653) (by decide +kernel))) (by decide +kernel))
theorem lk_X9_43 : LK RX9 43 (TX9 20) := Or.inl (WT_mem (List.mem_append_right _ (List.mem_of_getElem? (i := 654) (by decide +kernel))) (by decide +kernel))
theorem lk_X9_46 : LK RX9 46 (TX9 21) := Or.inl (WT_mem (List.mem_append_right _ (List.mem_of_getElem? (i := 655) (by decide +kernel))) (by decide +kernel))
theorem lk_X9_197 : LK RX9 197 (TX9 22) := Or.inl (WT_mem (List.mem_append_right _ (List.mem_of_getElem? (i := 656) (by decide +kernel))) (by decide +kernel))
theorem lk_X9_203 : LK RX9 203 (TX9 23) := Or.inl (WT_mem (List.mem_append_right _ (List.mem_of_getElem? (i := 657) (by decide +kernel))) (by decide +kernel))
theorem lk_X9_49 : LK RX9 49 (TX9 24) := Or.inl (WT_mem (List.mem_append_right _ (List.mem_of_getElem? (i := 658) (by decide +kernel))) (by decide +kernel))
theorem lk_X9_52 : LK RX9 52 (TX9 25) := Or.inl (WT_mem (List.mem_append_right _ (List.mem_of_getElem? (i := 659) (by decide +kernel))) (by decide +kernel))
theorem lk_X9_272 : LK RX9 272 (TX9 26) := Or.inl (WT_mem (List.mem_append_right _ (List.mem_of_getElem? (i := 660) (by decide +kernel))) (by decide +kernel))
theorem lk_X9_55 : LK RX9 55 (TX9 27) := Or.inl (WT_mem (List.mem_append_right _ (List.mem_of_getElem? (i := 661) (by decide +kernel))) (by decide +kernel))
theorem lk_X9_58 : LK RX9 58 (TX9 28) := Or.inl (WT_mem (List.mem_append_right _ (List.mem_of_getElem? (i := 662) (by decide +kernel))) (by decide +kernel))
theorem lk_X9_67 : LK RX9 67 (TX9 29) := Or.inl (WT_mem (List.mem_append_right _ (List.mem_of_getElem? (i := 663) (by decide +kernel))) (by decide +kernel))
theorem lk_X9_61 : LK RX9 61 (TX9 30) := Or.inl (WT_mem (List.mem_append_right _ (List.mem_of_getElem? (i := 664) (by decide +kernel))) (by decide +kernel))
theorem lk_X9_64 : LK RX9 64 (TX9 31) := Or.inl (WT_mem (List.mem_append_right _ (List.mem_of_getElem? (i := 665) (by decide +kernel))) (by decide +kernel))
theorem lk_X9_296 : LK RX9 296 (TX9 32) := Or.inl (WT_mem (List.mem_append_right _ (List.mem_of_getElem? (i := 666) (by decide +kernel))) (by decide +kernel))
theorem lk_kab : Cond.fieldLink RX8 269 "LineScript" "KIND_ABOVE" "[I" ∈ WT := WT_mem (List.mem_append_right _ (List.mem_of_getElem? (i := 474) (by decide +kernel))) (by decide +kernel)
theorem lc_L_13 : LC RL 13 mX8_letter := Or.inl (WT_mem (List.mem_append_right _ (List.mem_of_getElem? (i := 240) (by decide +kernel))) (by decide +kernel))
theorem lc_X8_69 : LC RX8 69 mX3_append := Or.inr ⟨"LineScript", List.mem_append_right _ (List.mem_of_getElem? (i := 244) (by decide +kernel))⟩
theorem lc_L_18 : LC RL 18 mX8_blank := Or.inl (WT_mem (List.mem_append_right _ (List.mem_of_getElem? (i := 248) (by decide +kernel))) (by decide +kernel))
theorem lc_L_23 : LC RL 23 mX8_fault := Or.inl (WT_mem (List.mem_append_right _ (List.mem_of_getElem? (i := 252) (by decide +kernel))) (by decide +kernel))
theorem lc_X8_76 : LC RX8 76 mX3_firstFault := Or.inr ⟨"LineScript", List.mem_append_right _ (List.mem_of_getElem? (i := 256) (by decide +kernel))⟩
theorem lc_X3_26 : LC RX3 26 mX5_begin := Or.inr ⟨"LineScript", List.mem_append_right _ (List.mem_of_getElem? (i := 260) (by decide +kernel))⟩
theorem lc_X3_29 : LC RX3 29 mX5_takes := Or.inr ⟨"LineScript", List.mem_append_right _ (List.mem_of_getElem? (i := 264) (by decide +kernel))⟩
theorem lc_X5_21 : LC RX5 21 mX8_isLetter := Or.inr ⟨"LineScript", List.mem_append_right _ (List.mem_of_getElem? (i := 268) (by decide +kernel))⟩
theorem lc_X5_25 : LC RX5 25 mX5_takesLetter := Or.inl (WT_mem (List.mem_append_right _ (List.mem_of_getElem? (i := 271) (by decide +kernel))) (by decide +kernel))
theorem lc_X5_29 : LC RX5 29 mX5_takesComma := Or.inl (WT_mem (List.mem_append_right _ (List.mem_of_getElem? (i := 275) (by decide +kernel))) (by decide +kernel))
theorem lc_X5_32 : LC RX5 32 mX5_takesSemicolon := Or.inl (WT_mem (List.mem_append_right _ (List.mem_of_getElem? (i := 279) (by decide +kernel))) (by decide +kernel))
theorem lc_X5_35 : LC RX5 35 mX5_sideMayEnd := Or.inl (WT_mem (List.mem_append_right _ (List.mem_of_getElem? (i := 283) (by decide +kernel))) (by decide +kernel))
theorem lc_L_27 : LC RL 27 mX8_text := Or.inl (WT_mem (List.mem_append_right _ (List.mem_of_getElem? (i := 287) (by decide +kernel))) (by decide +kernel))
theorem lc_X8_80 : LC RX8 80 mX3_isText := Or.inr ⟨"LineScript", List.mem_append_right _ (List.mem_of_getElem? (i := 291) (by decide +kernel))⟩
theorem lc_X3_33 : LC RX3 33 mX3_firstFault := Or.inl (WT_mem (List.mem_append_right _ (List.mem_of_getElem? (i := 295) (by decide +kernel))) (by decide +kernel))
theorem lc_X3_37 : LC RX3 37 mX5_mayEnd := Or.inr ⟨"LineScript", List.mem_append_right _ (List.mem_of_getElem? (i := 296) (by decide +kernel))⟩
theorem lc_X8_84 : LC RX8 84 mX3_readInto := Or.inr ⟨"LineScript", List.mem_append_right _ (List.mem_of_getElem? (i := 300) (by decide +kernel))⟩
theorem lc_X3_41 : LC RX3 41 mX7_clear := Or.inr ⟨"LineScript", List.mem_append_right _ (List.mem_of_getElem? (i := 304) (by decide +kernel))⟩
theorem lc_X3_46 : LC RX3 46 mX8_isLetter := Or.inr ⟨"LineScript", List.mem_append_right _ (List.mem_of_getElem? (i := 308) (by decide +kernel))⟩
theorem lc_X3_49 : LC RX3 49 mX7_appendLine := Or.inr ⟨"LineScript", List.mem_append_right _ (List.mem_of_getElem? (i := 309) (by decide +kernel))⟩
theorem lc_X7_30 : LC RX7 30 mX7_insert := Or.inl (WT_mem (List.mem_append_right _ (List.mem_of_getElem? (i := 313) (by decide +kernel))) (by decide +kernel))
theorem lc_X7_20 : LC RX7 20 mX8_isSide := Or.inr ⟨"LineScript", List.mem_append_right _ (List.mem_of_getElem? (i := 317) (by decide +kernel))⟩
theorem lc_X8_88 : LC RX8 88 mX8_compareAnew := Or.inl (WT_mem (List.mem_append_right _ (List.mem_of_getElem? (i := 320) (by decide +kernel))) (by decide +kernel))
theorem lc_X8_248 : LC RX8 248 mX2_compare := Or.inr ⟨"LineScript", List.mem_append_right _ (List.mem_of_getElem? (i := 324) (by decide +kernel))⟩
theorem lc_X2_53 : LC RX2 53 mX2_matchParts := Or.inl (WT_mem (List.mem_append_right _ (List.mem_of_getElem? (i := 328) (by decide +kernel))) (by decide +kernel))
theorem lc_X2_74 : LC RX2 74 mX2_same := Or.inl (WT_mem (List.mem_append_right _ (List.mem_of_getElem? (i := 332) (by decide +kernel))) (by decide +kernel))
theorem lc_X2_78 : LC RX2 78 mX2_keep := Or.inl (WT_mem (List.mem_append_right _ (List.mem_of_getElem? (i := 336) (by decide +kernel))) (by decide +kernel))
theorem lc_X2_82 : LC RX2 82 mX2_findAnchors := Or.inl (WT_mem (List.mem_append_right _ (List.mem_of_getElem? (i := 340) (by decide +kernel))) (by decide +kernel))
theorem lc_X2_95 : LC RX2 95 mX2_onlyPlaceOf := Or.inl (WT_mem (List.mem_append_right _ (List.mem_of_getElem? (i := 344) (by decide +kernel))) (by decide +kernel))
theorem lc_X2_86 : LC RX2 86 mX2_keepLongestChain := Or.inl (WT_mem (List.mem_append_right _ (List.mem_of_getElem? (i := 348) (by decide +kernel))) (by decide +kernel))
theorem lc_X2_99 : LC RX2 99 mX2_measureChains := Or.inl (WT_mem (List.mem_append_right _ (List.mem_of_getElem? (i := 352) (by decide +kernel))) (by decide +kernel))
theorem lc_X2_103 : Cond.methodLink RX2 103 Lib.Math.max.name ∈ WT := WT_mem (List.mem_append_right _ (List.mem_of_getElem? (i := 356) (by decide +kernel))) (by decide +kernel)
theorem lc_X2_89 : LC RX2 89 mX2_matchBetweenAnchors := Or.inl (WT_mem (List.mem_append_right _ (List.mem_of_getElem? (i := 359) (by decide +kernel))) (by decide +kernel))
theorem lc_X2_92 : LC RX2 92 mX2_keepMost := Or.inl (WT_mem (List.mem_append_right _ (List.mem_of_getElem? (i := 363) (by decide +kernel))) (by decide +kernel))
theorem lc_X2_70 : LC RX2 70 mX0_most := Or.inr ⟨"LineScript", List.mem_append_right _ (List.mem_of_getElem? (i := 367) (by decide +kernel))⟩
theorem lc_X0_16 : Cond.methodLink RX0 16 Lib.Math.max.name ∈ WT := WT_mem (List.mem_append_right _ (List.mem_of_getElem? (i := 371) (by decide +kernel))) (by decide +kernel)
theorem lc_X2_57 : LC RX2 57 mX2_slideGaps := Or.inl (WT_mem (List.mem_append_right _ (List.mem_of_getElem? (i := 372) (by decide +kernel))) (by decide +kernel))
theorem lc_X2_111 : LC RX2 111 mX2_widenGap := Or.inl (WT_mem (List.mem_append_right _ (List.mem_of_getElem? (i := 376) (by decide +kernel))) (by decide +kernel))
theorem lc_X2_114 : LC RX2 114 mX2_slideGap := Or.inl (WT_mem (List.mem_append_right _ (List.mem_of_getElem? (i := 380) (by decide +kernel))) (by decide +kernel))
theorem lc_X2_117 : LC RX2 117 mX2_maySlide := Or.inl (WT_mem (List.mem_append_right _ (List.mem_of_getElem? (i := 384) (by decide +kernel))) (by decide +kernel))
theorem lc_X2_121 : LC RX2 121 mX2_slideOnce := Or.inl (WT_mem (List.mem_append_right _ (List.mem_of_getElem? (i := 388) (by decide +kernel))) (by decide +kernel))
theorem lc_X8_251 : LC RX8 251 mX6_build := Or.inr ⟨"LineScript", List.mem_append_right _ (List.mem_of_getElem? (i := 392) (by decide +kernel))⟩
theorem lc_X6_45 : LC RX6 45 mX6_nextKept := Or.inl (WT_mem (List.mem_append_right _ (List.mem_of_getElem? (i := 396) (by decide +kernel))) (by decide +kernel))
theorem lc_X6_49 : LC RX6 49 mX6_findChanged := Or.inl (WT_mem (List.mem_append_right _ (List.mem_of_getElem? (i := 400) (by decide +kernel))) (by decide +kernel))
theorem lc_X6_72 : Cond.methodLink RX6 72 Lib.Math.min.name ∈ WT := WT_mem (List.mem_append_right _ (List.mem_of_getElem? (i := 404) (by decide +kernel))) (by decide +kernel)
theorem lc_X6_81 : LC RX6 81 mX1_fraction := Or.inr ⟨"LineScript", List.mem_append_right _ (List.mem_of_getElem? (i := 407) (by decide +kernel))⟩
theorem lc_X1_29 : LC RX1 29 mX8_lettersIn := Or.inr ⟨"LineScript", List.mem_append_right _ (List.mem_of_getElem? (i := 411) (by decide +kernel))⟩
theorem lc_X1_37 : LC RX1 37 mX1_commonLetters := Or.inl (WT_mem (List.mem_append_right _ (List.mem_of_getElem? (i := 414) (by decide +kernel))) (by decide +kernel))
theorem lc_X1_25 : LC RX1 25 mX8_codeAt := Or.inr ⟨"LineScript", List.mem_append_right _ (List.mem_of_getElem? (i := 418) (by decide +kernel))⟩
theorem lc_X8_102 : LC RX8 102 mX8_lettersIn := Or.inl (WT_mem (List.mem_append_right _ (List.mem_of_getElem? (i := 421) (by decide +kernel))) (by decide +kernel))
theorem lc_X1_33 : LC RX1 33 mX0_most := Or.inr ⟨"LineScript", List.mem_append_right _ (List.mem_of_getElem? (i := 422) (by decide +kernel))⟩
theorem lc_X6_53 : LC RX6 53 mX6_addDropped := Or.inl (WT_mem (List.mem_append_right _ (List.mem_of_getElem? (i := 424) (by decide +kernel))) (by decide +kernel))
theorem lc_X6_65 : LC RX6 65 mX6_addStep := Or.inl (WT_mem (List.mem_append_right _ (List.mem_of_getElem? (i := 428) (by decide +kernel))) (by decide +kernel))
theorem lc_X6_89 : LC RX6 89 mX8_singleBits := Or.inr ⟨"LineScript", List.mem_append_right _ (List.mem_of_getElem? (i := 432) (by decide +kernel))⟩
theorem lc_X6_57 : LC RX6 57 mX6_addAdded := Or.inl (WT_mem (List.mem_append_right _ (List.mem_of_getElem? (i := 437) (by decide +kernel))) (by decide +kernel))
theorem lc_X8_255 : LC RX8 255 mX4_clear := Or.inr ⟨"LineScript", List.mem_append_right _ (List.mem_of_getElem? (i := 442) (by decide +kernel))⟩
theorem lc_X8_91 : LC RX8 91 mX7_total := Or.inr ⟨"LineScript", List.mem_append_right _ (List.mem_of_getElem? (i := 446) (by decide +kernel))⟩
theorem lc_L_31 : LC RL 31 mX8_line := Or.inl (WT_mem (List.mem_append_right _ (List.mem_of_getElem? (i := 450) (by decide +kernel))) (by decide +kernel))
theorem lc_X8_94 : LC RX8 94 mX7_has := Or.inr ⟨"LineScript", List.mem_append_right _ (List.mem_of_getElem? (i := 454) (by decide +kernel))⟩
theorem lc_X8_106 : LC RX8 106 mX8_codeAt := Or.inl (WT_mem (List.mem_append_right _ (List.mem_of_getElem? (i := 458) (by decide +kernel))) (by decide +kernel))
theorem lc_L_36 : LC RL 36 mX8_step := Or.inl (WT_mem (List.mem_append_right _ (List.mem_of_getElem? (i := 459) (by decide +kernel))) (by decide +kernel))
theorem lc_X8_116 : LC RX8 116 mX6_has := Or.inr ⟨"LineScript", List.mem_append_right _ (List.mem_of_getElem? (i := 463) (by decide +kernel))⟩
theorem lc_L_41 : LC RL 41 mX8_letters := Or.inl (WT_mem (List.mem_append_right _ (List.mem_of_getElem? (i := 467) (by decide +kernel))) (by decide +kernel))
theorem lc_X8_134 : LC RX8 134 mX8_isOfKind := Or.inl (WT_mem (List.mem_append_right _ (List.mem_of_getElem? (i := 471) (by decide +kernel))) (by decide +kernel))
theorem lc_X8_137 : LC RX8 137 mX1_commonLetters := Or.inr ⟨"LineScript", List.mem_append_right _ (List.mem_of_getElem? (i := 476) (by decide +kernel))⟩
theorem lc_L_45 : LC RL 45 mX8_like := Or.inl (WT_mem (List.mem_append_right _ (List.mem_of_getElem? (i := 477) (by decide +kernel))) (by decide +kernel))
theorem lc_X8_140 : LC RX8 140 mX1_fraction := Or.inr ⟨"LineScript", List.mem_append_right _ (List.mem_of_getElem? (i := 481) (by decide +kernel))⟩
theorem lc_X8_144 : LC RX8 144 mX8_singleBits := Or.inl (WT_mem (List.mem_append_right _ (List.mem_of_getElem? (i := 482) (by decide +kernel))) (by decide +kernel))
theorem lc_L_49 : LC RL 49 mX8_rack := Or.inl (WT_mem (List.mem_append_right _ (List.mem_of_getElem? (i := 483) (by decide +kernel))) (by decide +kernel))
theorem lc_X8_150 : LC RX8 150 mX4_append := Or.inr ⟨"LineScript", List.mem_append_right _ (List.mem_of_getElem? (i := 487) (by decide +kernel))⟩
theorem lc_L_53 : LC RL 53 mX8_racked := Or.inl (WT_mem (List.mem_append_right _ (List.mem_of_getElem? (i := 491) (by decide +kernel))) (by decide +kernel))
theorem lc_L_57 : LC RL 57 mX8_put := Or.inl (WT_mem (List.mem_append_right _ (List.mem_of_getElem? (i := 495) (by decide +kernel))) (by decide +kernel))
theorem lc_X8_155 : LC RX8 155 mX8_isSide := Or.inl (WT_mem (List.mem_append_right _ (List.mem_of_getElem? (i := 499) (by decide +kernel))) (by decide +kernel))
theorem lc_X8_159 : LC RX8 159 mX8_isLine := Or.inl (WT_mem (List.mem_append_right _ (List.mem_of_getElem? (i := 500) (by decide +kernel))) (by decide +kernel))
theorem lc_X8_266 : LC RX8 266 mX8_isLetter := Or.inl (WT_mem (List.mem_append_right _ (List.mem_of_getElem? (i := 503) (by decide +kernel))) (by decide +kernel))
theorem lc_X8_162 : LC RX8 162 mX7_insert := Or.inr ⟨"LineScript", List.mem_append_right _ (List.mem_of_getElem? (i := 504) (by decide +kernel))⟩
theorem lc_L_61 : LC RL 61 mX8_take := Or.inl (WT_mem (List.mem_append_right _ (List.mem_of_getElem? (i := 505) (by decide +kernel))) (by decide +kernel))
theorem lc_X8_166 : LC RX8 166 mX7_remove := Or.inr ⟨"LineScript", List.mem_append_right _ (List.mem_of_getElem? (i := 509) (by decide +kernel))⟩
theorem lc_X7_34 : LC RX7 34 mX7_has := Or.inl (WT_mem (List.mem_append_right _ (List.mem_of_getElem? (i := 513) (by decide +kernel))) (by decide +kernel))
theorem lc_L_65 : LC RL 65 mX8_swap := Or.inl (WT_mem (List.mem_append_right _ (List.mem_of_getElem? (i := 514) (by decide +kernel))) (by decide +kernel))
theorem lc_X8_170 : LC RX8 170 mX7_exchangeLines := Or.inr ⟨"LineScript", List.mem_append_right _ (List.mem_of_getElem? (i := 518) (by decide +kernel))⟩
theorem lc_L_69 : LC RL 69 mX8_turn := Or.inl (WT_mem (List.mem_append_right _ (List.mem_of_getElem? (i := 522) (by decide +kernel))) (by decide +kernel))
theorem lc_X8_173 : LC RX8 173 mX7_exchangeSides := Or.inr ⟨"LineScript", List.mem_append_right _ (List.mem_of_getElem? (i := 526) (by decide +kernel))⟩
theorem lc_L_73 : LC RL 73 mX8_cost := Or.inl (WT_mem (List.mem_append_right _ (List.mem_of_getElem? (i := 530) (by decide +kernel))) (by decide +kernel))
theorem lc_X8_176 : LC RX8 176 mX2_notKept := Or.inr ⟨"LineScript", List.mem_append_right _ (List.mem_of_getElem? (i := 534) (by decide +kernel))⟩
theorem lc_X2_60 : LC RX2 60 mX7_total := Or.inr ⟨"LineScript", List.mem_append_right _ (List.mem_of_getElem? (i := 538) (by decide +kernel))⟩
theorem lc_X2_64 : LC RX2 64 mX2_kept := Or.inl (WT_mem (List.mem_append_right _ (List.mem_of_getElem? (i := 539) (by decide +kernel))) (by decide +kernel))
theorem lc_X8_179 : LC RX8 179 mX2_shortest := Or.inr ⟨"LineScript", List.mem_append_right _ (List.mem_of_getElem? (i := 543) (by decide +kernel))⟩
theorem lc_L_77 : LC RL 77 mX8_best := Or.inl (WT_mem (List.mem_append_right _ (List.mem_of_getElem? (i := 547) (by decide +kernel))) (by decide +kernel))
theorem lc_X8_191 : LC RX8 191 mX8_costOfPutting := Or.inl (WT_mem (List.mem_append_right _ (List.mem_of_getElem? (i := 551) (by decide +kernel))) (by decide +kernel))
theorem lc_X8_206 : LC RX8 206 mX7_copyFrom := Or.inr ⟨"LineScript", List.mem_append_right _ (List.mem_of_getElem? (i := 555) (by decide +kernel))⟩
theorem lc_X7_24 : Cond.methodLink RX7 24 arraycopyName ∈ WT := WT_mem (List.mem_append_right _ (List.mem_of_getElem? (i := 559) (by decide +kernel))) (by decide +kernel)
theorem lc_L_81 : LC RL 81 mX8_all := Or.inl (WT_mem (List.mem_append_right _ (List.mem_of_getElem? (i := 562) (by decide +kernel))) (by decide +kernel))
theorem lc_X8_196 : LC RX8 196 mX2_kept := Or.inr ⟨"LineScript", List.mem_append_right _ (List.mem_of_getElem? (i := 567) (by decide +kernel))⟩
theorem lc_X8_199 : LC RX8 199 mX8_doubleBits := Or.inl (WT_mem (List.mem_append_right _ (List.mem_of_getElem? (i := 568) (by decide +kernel))) (by decide +kernel))
theorem lc_L_86 : LC RL 86 mX8_drawn := Or.inl (WT_mem (List.mem_append_right _ (List.mem_of_getElem? (i := 575) (by decide +kernel))) (by decide +kernel))
theorem lc_X8_203 : LC RX8 203 mX8_drawTrial := Or.inl (WT_mem (List.mem_append_right _ (List.mem_of_getElem? (i := 579) (by decide +kernel))) (by decide +kernel))
theorem lc_X8_258 : LC RX8 258 mX7_clear := Or.inr ⟨"LineScript", List.mem_append_right _ (List.mem_of_getElem? (i := 583) (by decide +kernel))⟩
theorem lc_L_90 : LC RL 90 mX8_image := Or.inl (WT_mem (List.mem_append_right _ (List.mem_of_getElem? (i := 588) (by decide +kernel))) (by decide +kernel))
theorem lc_L_94 : LC RL 94 mX8_restore := Or.inl (WT_mem (List.mem_append_right _ (List.mem_of_getElem? (i := 592) (by decide +kernel))) (by decide +kernel))
theorem lc_L_98 : LC RL 98 mX8_count := Or.inl (WT_mem (List.mem_append_right _ (List.mem_of_getElem? (i := 596) (by decide +kernel))) (by decide +kernel))
theorem lc_X8_210 : LC RX8 210 mX6_howManyOf := Or.inr ⟨"LineScript", List.mem_append_right _ (List.mem_of_getElem? (i := 600) (by decide +kernel))⟩
theorem lc_X8_213 : LC RX8 213 mX4_total := Or.inr ⟨"LineScript", List.mem_append_right _ (List.mem_of_getElem? (i := 604) (by decide +kernel))⟩
theorem lc_L_102 : LC RL 102 mX8_digest := Or.inl (WT_mem (List.mem_append_right _ (List.mem_of_getElem? (i := 608) (by decide +kernel))) (by decide +kernel))
theorem lc_X8_216 : LC RX8 216 mX8_digestOfLines := Or.inl (WT_mem (List.mem_append_right _ (List.mem_of_getElem? (i := 613) (by decide +kernel))) (by decide +kernel))
theorem lc_X8_241 : LC RX8 241 mX8_line := Or.inl (WT_mem (List.mem_append_right _ (List.mem_of_getElem? (i := 618) (by decide +kernel))) (by decide +kernel))
theorem lc_X8_220 : LC RX8 220 mX8_digestOfScript := Or.inl (WT_mem (List.mem_append_right _ (List.mem_of_getElem? (i := 619) (by decide +kernel))) (by decide +kernel))
theorem lc_X8_245 : LC RX8 245 mX8_step := Or.inl (WT_mem (List.mem_append_right _ (List.mem_of_getElem? (i := 623) (by decide +kernel))) (by decide +kernel))
theorem lc_X8_225 : LC RX8 225 mX8_cost := Or.inl (WT_mem (List.mem_append_right _ (List.mem_of_getElem? (i := 624) (by decide +kernel))) (by decide +kernel))
theorem lc_X8_228 : LC RX8 228 mX8_all := Or.inl (WT_mem (List.mem_append_right _ (List.mem_of_getElem? (i := 625) (by decide +kernel))) (by decide +kernel))
theorem lc_X8_232 : LC RX8 232 mX8_racked := Or.inl (WT_mem (List.mem_append_right _ (List.mem_of_getElem? (i := 626) (by decide +kernel))) (by decide +kernel))
theorem lc_X8_238 : LC RX8 238 mX8_count := Or.inl (WT_mem (List.mem_append_right _ (List.mem_of_getElem? (i := 627) (by decide +kernel))) (by decide +kernel))
theorem lc_L_17 : LC RL 17 mX9_letter := Or.inl (WT_mem (List.mem_append_right _ (List.mem_of_getElem? (i := 734) (by decide +kernel))) (by decide +kernel))
theorem lc_X9_73 : LC RX9 73 mX9_in := Or.inl (WT_mem (List.mem_append_right _ (List.mem_of_getElem? (i := 739) (by decide +kernel))) (by decide +kernel))
theorem lc_L_22 : LC RL 22 mX9_blank := Or.inl (WT_mem (List.mem_append_right _ (List.mem_of_getElem? (i := 742) (by decide +kernel))) (by decide +kernel))
theorem lc_L_26 : LC RL 26 mX9_fault := Or.inl (WT_mem (List.mem_append_right _ (List.mem_of_getElem? (i := 746) (by decide +kernel))) (by decide +kernel))
theorem lc_X9_98 : LC RX9 98 mX9_faultOf := Or.inl (WT_mem (List.mem_append_right _ (List.mem_of_getElem? (i := 750) (by decide +kernel))) (by decide +kernel))
theorem lc_X9_94 : LC RX9 94 mX9_isGood := Or.inl (WT_mem (List.mem_append_right _ (List.mem_of_getElem? (i := 754) (by decide +kernel))) (by decide +kernel))
theorem lc_L_30 : LC RL 30 mX9_text := Or.inl (WT_mem (List.mem_append_right _ (List.mem_of_getElem? (i := 760) (by decide +kernel))) (by decide +kernel))
theorem lc_X9_102 : LC RX9 102 mX9_copy := Or.inl (WT_mem (List.mem_append_right _ (List.mem_of_getElem? (i := 764) (by decide +kernel))) (by decide +kernel))
theorem lc_X9_112 : LC RX9 112 mX9_layScript := Or.inl (WT_mem (List.mem_append_right _ (List.mem_of_getElem? (i := 767) (by decide +kernel))) (by decide +kernel))
theorem lc_X9_209 : LC RX9 209 mX9_layKept := Or.inl (WT_mem (List.mem_append_right _ (List.mem_of_getElem? (i := 771) (by decide +kernel))) (by decide +kernel))
theorem lc_X9_219 : LC RX9 219 mX9_matchAll := Or.inl (WT_mem (List.mem_append_right _ (List.mem_of_getElem? (i := 775) (by decide +kernel))) (by decide +kernel))
theorem lc_X9_136 : LC RX9 136 mX9_addPart := Or.inl (WT_mem (List.mem_append_right _ (List.mem_of_getElem? (i := 779) (by decide +kernel))) (by decide +kernel))
theorem lc_X9_154 : LC RX9 154 mX9_matchPart := Or.inl (WT_mem (List.mem_append_right _ (List.mem_of_getElem? (i := 783) (by decide +kernel))) (by decide +kernel))
theorem lc_X9_125 : LC RX9 125 mX9_isSame := Or.inl (WT_mem (List.mem_append_right _ (List.mem_of_getElem? (i := 787) (by decide +kernel))) (by decide +kernel))
theorem lc_X9_129 : LC RX9 129 mX9_keep := Or.inl (WT_mem (List.mem_append_right _ (List.mem_of_getElem? (i := 791) (by decide +kernel))) (by decide +kernel))
theorem lc_X9_143 : LC RX9 143 mX9_layAnchors := Or.inl (WT_mem (List.mem_append_right _ (List.mem_of_getElem? (i := 795) (by decide +kernel))) (by decide +kernel))
theorem lc_X9_121 : LC RX9 121 mX9_timesIn := Or.inl (WT_mem (List.mem_append_right _ (List.mem_of_getElem? (i := 799) (by decide +kernel))) (by decide +kernel))
theorem lc_X9_147 : LC RX9 147 mX9_matchAnchors := Or.inl (WT_mem (List.mem_append_right _ (List.mem_of_getElem? (i := 803) (by decide +kernel))) (by decide +kernel))
theorem lc_X9_151 : LC RX9 151 mX9_matchRows := Or.inl (WT_mem (List.mem_append_right _ (List.mem_of_getElem? (i := 807) (by decide +kernel))) (by decide +kernel))
theorem lc_X9_140 : LC RX9 140 mX9_layCan := Or.inl (WT_mem (List.mem_append_right _ (List.mem_of_getElem? (i := 811) (by decide +kernel))) (by decide +kernel))
theorem lc_X9_222 : LC RX9 222 mX9_slideAll := Or.inl (WT_mem (List.mem_append_right _ (List.mem_of_getElem? (i := 815) (by decide +kernel))) (by decide +kernel))
theorem lc_X9_168 : LC RX9 168 mX9_countBack := Or.inl (WT_mem (List.mem_append_right _ (List.mem_of_getElem? (i := 819) (by decide +kernel))) (by decide +kernel))
theorem lc_X9_172 : LC RX9 172 mX9_slideGap := Or.inl (WT_mem (List.mem_append_right _ (List.mem_of_getElem? (i := 823) (by decide +kernel))) (by decide +kernel))
theorem lc_X9_160 : LC RX9 160 mX9_isSliding := Or.inl (WT_mem (List.mem_append_right _ (List.mem_of_getElem? (i := 827) (by decide +kernel))) (by decide +kernel))
theorem lc_X9_164 : LC RX9 164 mX9_slide := Or.inl (WT_mem (List.mem_append_right _ (List.mem_of_getElem? (i := 831) (by decide +kernel))) (by decide +kernel))
theorem lc_X9_212 : LC RX9 212 mX9_countGap := Or.inl (WT_mem (List.mem_append_right _ (List.mem_of_getElem? (i := 835) (by decide +kernel))) (by decide +kernel))
theorem lc_X9_215 : LC RX9 215 mX9_layGap := Or.inl (WT_mem (List.mem_append_right _ (List.mem_of_getElem? (i := 839) (by decide +kernel))) (by decide +kernel))
theorem lc_X9_200 : LC RX9 200 mX9_changeBy := Or.inl (WT_mem (List.mem_append_right _ (List.mem_of_getElem? (i := 843) (by decide +kernel))) (by decide +kernel))
theorem lc_X9_184 : LC RX9 184 mX9_alike := Or.inl (WT_mem (List.mem_append_right _ (List.mem_of_getElem? (i := 847) (by decide +kernel))) (by decide +kernel))
theorem lc_X9_177 : LC RX9 177 mX9_lettersOf := Or.inl (WT_mem (List.mem_append_right _ (List.mem_of_getElem? (i := 851) (by decide +kernel))) (by decide +kernel))
theorem lc_X9_181 : LC RX9 181 mX9_letterOf := Or.inl (WT_mem (List.mem_append_right _ (List.mem_of_getElem? (i := 854) (by decide +kernel))) (by decide +kernel))
theorem lc_X9_206 : LC RX9 206 mX9_addStep := Or.inl (WT_mem (List.mem_append_right _ (List.mem_of_getElem? (i := 857) (by decide +kernel))) (by decide +kernel))
theorem lc_X9_194 : LC RX9 194 mX9_likeBits := Or.inl (WT_mem (List.mem_append_right _ (List.mem_of_getElem? (i := 861) (by decide +kernel))) (by decide +kernel))
theorem lc_X9_187 : LC RX9 187 mX9_bitsOf := Or.inl (WT_mem (List.mem_append_right _ (List.mem_of_getElem? (i := 866) (by decide +kernel))) (by decide +kernel))
theorem lc_L_48 : LC RL 48 mX9_like := Or.inl (WT_mem (List.mem_append_right _ (List.mem_of_getElem? (i := 870) (by decide +kernel))) (by decide +kernel))
theorem lc_X9_191 : LC RX9 191 mX9_isLine := Or.inl (WT_mem (List.mem_append_right _ (List.mem_of_getElem? (i := 874) (by decide +kernel))) (by decide +kernel))
theorem lc_X9_115 : LC RX9 115 mX9_isSide := Or.inl (WT_mem (List.mem_append_right _ (List.mem_of_getElem? (i := 878) (by decide +kernel))) (by decide +kernel))
theorem lc_L_40 : LC RL 40 mX9_step := Or.inl (WT_mem (List.mem_append_right _ (List.mem_of_getElem? (i := 881) (by decide +kernel))) (by decide +kernel))
theorem lc_X9_225 : LC RX9 225 mX9_isStep := Or.inl (WT_mem (List.mem_append_right _ (List.mem_of_getElem? (i := 885) (by decide +kernel))) (by decide +kernel))
theorem lc_L_44 : LC RL 44 mX9_letters := Or.inl (WT_mem (List.mem_append_right _ (List.mem_of_getElem? (i := 890) (by decide +kernel))) (by decide +kernel))
theorem lc_X9_230 : LC RX9 230 mX9_lettersBy := Or.inl (WT_mem (List.mem_append_right _ (List.mem_of_getElem? (i := 894) (by decide +kernel))) (by decide +kernel))
theorem lc_L_35 : LC RL 35 mX9_line := Or.inl (WT_mem (List.mem_append_right _ (List.mem_of_getElem? (i := 898) (by decide +kernel))) (by decide +kernel))
theorem lc_X9_233 : LC RX9 233 mX9_tellLine := Or.inl (WT_mem (List.mem_append_right _ (List.mem_of_getElem? (i := 902) (by decide +kernel))) (by decide +kernel))
theorem lc_L_52 : LC RL 52 mX9_rack := Or.inl (WT_mem (List.mem_append_right _ (List.mem_of_getElem? (i := 906) (by decide +kernel))) (by decide +kernel))
theorem lc_X9_236 : LC RX9 236 mX9_rackedOf := Or.inl (WT_mem (List.mem_append_right _ (List.mem_of_getElem? (i := 910) (by decide +kernel))) (by decide +kernel))
theorem lc_X9_239 : LC RX9 239 mX9_isOf := Or.inl (WT_mem (List.mem_append_right _ (List.mem_of_getElem? (i := 914) (by decide +kernel))) (by decide +kernel))
theorem lc_L_56 : LC RL 56 mX9_racked := Or.inl (WT_mem (List.mem_append_right _ (List.mem_of_getElem? (i := 917) (by decide +kernel))) (by decide +kernel))
theorem lc_L_60 : LC RL 60 mX9_put := Or.inl (WT_mem (List.mem_append_right _ (List.mem_of_getElem? (i := 921) (by decide +kernel))) (by decide +kernel))
theorem lc_X9_243 : LC RX9 243 mX9_isLetters := Or.inl (WT_mem (List.mem_append_right _ (List.mem_of_getElem? (i := 925) (by decide +kernel))) (by decide +kernel))
theorem lc_X9_246 : LC RX9 246 mX9_insert := Or.inl (WT_mem (List.mem_append_right _ (List.mem_of_getElem? (i := 929) (by decide +kernel))) (by decide +kernel))
theorem lc_L_64 : LC RL 64 mX9_take := Or.inl (WT_mem (List.mem_append_right _ (List.mem_of_getElem? (i := 933) (by decide +kernel))) (by decide +kernel))
theorem lc_X9_249 : LC RX9 249 mX9_remove := Or.inl (WT_mem (List.mem_append_right _ (List.mem_of_getElem? (i := 937) (by decide +kernel))) (by decide +kernel))
theorem lc_L_68 : LC RL 68 mX9_swap := Or.inl (WT_mem (List.mem_append_right _ (List.mem_of_getElem? (i := 941) (by decide +kernel))) (by decide +kernel))
theorem lc_L_72 : LC RL 72 mX9_turn := Or.inl (WT_mem (List.mem_append_right _ (List.mem_of_getElem? (i := 945) (by decide +kernel))) (by decide +kernel))
theorem lc_L_76 : LC RL 76 mX9_cost := Or.inl (WT_mem (List.mem_append_right _ (List.mem_of_getElem? (i := 949) (by decide +kernel))) (by decide +kernel))
theorem lc_X9_258 : LC RX9 258 mX9_costOf := Or.inl (WT_mem (List.mem_append_right _ (List.mem_of_getElem? (i := 953) (by decide +kernel))) (by decide +kernel))
theorem lc_X9_255 : LC RX9 255 mX9_costNow := Or.inl (WT_mem (List.mem_append_right _ (List.mem_of_getElem? (i := 957) (by decide +kernel))) (by decide +kernel))
theorem lc_X9_252 : LC RX9 252 mX9_keptMany := Or.inl (WT_mem (List.mem_append_right _ (List.mem_of_getElem? (i := 961) (by decide +kernel))) (by decide +kernel))
theorem lc_L_80 : LC RL 80 mX9_best := Or.inl (WT_mem (List.mem_append_right _ (List.mem_of_getElem? (i := 965) (by decide +kernel))) (by decide +kernel))
theorem lc_X9_261 : LC RX9 261 mX9_bestOf := Or.inl (WT_mem (List.mem_append_right _ (List.mem_of_getElem? (i := 969) (by decide +kernel))) (by decide +kernel))
theorem lc_L_85 : LC RL 85 mX9_all := Or.inl (WT_mem (List.mem_append_right _ (List.mem_of_getElem? (i := 973) (by decide +kernel))) (by decide +kernel))
theorem lc_X9_264 : LC RX9 264 mX9_allOf := Or.inl (WT_mem (List.mem_append_right _ (List.mem_of_getElem? (i := 977) (by decide +kernel))) (by decide +kernel))
theorem lc_L_89 : LC RL 89 mX9_drawn := Or.inl (WT_mem (List.mem_append_right _ (List.mem_of_getElem? (i := 982) (by decide +kernel))) (by decide +kernel))
theorem lc_X9_282 : LC RX9 282 mX9_draw := Or.inl (WT_mem (List.mem_append_right _ (List.mem_of_getElem? (i := 987) (by decide +kernel))) (by decide +kernel))
theorem lc_L_93 : LC RL 93 mX9_image := Or.inl (WT_mem (List.mem_append_right _ (List.mem_of_getElem? (i := 995) (by decide +kernel))) (by decide +kernel))
theorem lc_L_97 : LC RL 97 mX9_restore := Or.inl (WT_mem (List.mem_append_right _ (List.mem_of_getElem? (i := 999) (by decide +kernel))) (by decide +kernel))
theorem lc_L_101 : LC RL 101 mX9_count := Or.inl (WT_mem (List.mem_append_right _ (List.mem_of_getElem? (i := 1003) (by decide +kernel))) (by decide +kernel))
theorem lc_X9_291 : LC RX9 291 mX9_countOf := Or.inl (WT_mem (List.mem_append_right _ (List.mem_of_getElem? (i := 1007) (by decide +kernel))) (by decide +kernel))
theorem lc_X9_285 : LC RX9 285 mX9_stepsOf := Or.inl (WT_mem (List.mem_append_right _ (List.mem_of_getElem? (i := 1011) (by decide +kernel))) (by decide +kernel))
theorem lc_X9_288 : LC RX9 288 mX9_rackedAll := Or.inl (WT_mem (List.mem_append_right _ (List.mem_of_getElem? (i := 1015) (by decide +kernel))) (by decide +kernel))
theorem lc_L_105 : LC RL 105 mX9_digest := Or.inl (WT_mem (List.mem_append_right _ (List.mem_of_getElem? (i := 1019) (by decide +kernel))) (by decide +kernel))
theorem lc_X9_300 : LC RX9 300 mX9_say := Or.inl (WT_mem (List.mem_append_right _ (List.mem_of_getElem? (i := 1024) (by decide +kernel))) (by decide +kernel))
theorem lc_X9_306 : LC RX9 306 mX9_sayText := Or.inl (WT_mem (List.mem_append_right _ (List.mem_of_getElem? (i := 1029) (by decide +kernel))) (by decide +kernel))
theorem st_max : Cond.static Lib.Math.max.name ∈ WT := WT_mem (List.mem_append_right _ (List.mem_of_getElem? (i := 357) (by decide +kernel))) (by decide +kernel)
theorem co_max : Cond.code Lib.Math.max.name Lib.Math.max.code 2 (some .int) ∈ WT := WT_mem (List.mem_append_right _ (List.mem_of_getElem? (i := 358) (by decide +kernel))) (by decide +kernel)
theorem st_min : Cond.static Lib.Math.min.name ∈ WT := WT_mem (List.mem_append_right _ (List.mem_of_getElem? (i := 405) (by decide +kernel))) (by decide +kernel)
theorem co_min : Cond.code Lib.Math.min.name Lib.Math.min.code 2 (some .int) ∈ WT := WT_mem (List.mem_append_right _ (List.mem_of_getElem? (i := 406) (by decide +kernel))) (by decide +kernel)
theorem in_Math : Cond.initialized "java/lang/Math" ∈ WT := WT_mem (List.mem_append_right _ (List.mem_of_getElem? (i := 11) (by decide +kernel))) (by decide +kernel)
theorem in_Sys : Cond.initialized "java/lang/System" ∈ WT := WT_mem (List.mem_append_right _ (List.mem_of_getElem? (i := 12) (by decide +kernel))) (by decide +kernel)
theorem na_copy : Cond.native arraycopyName ∈ WT := WT_mem (List.mem_append_right _ (List.mem_of_getElem? (i := 561) (by decide +kernel))) (by decide +kernel)
theorem st_copy : Cond.static arraycopyName ∈ WT := WT_mem (List.mem_append_right _ (List.mem_of_getElem? (i := 560) (by decide +kernel))) (by decide +kernel)
theorem cv_X0_most : CV mX0_most 6 := ⟨⟨WT_mem (List.mem_append_right _ (List.mem_of_getElem? (i := 370) (by decide +kernel))) (by decide +kernel), WT_mem (List.mem_append_right _ (List.mem_of_getElem? (i := 6) (by decide +kernel))) (by decide +kernel), by decide +kernel, by decide⟩, WT_mem (List.mem_append_right _ (List.mem_of_getElem? (i := 369) (by decide +kernel))) (by decide +kernel), WT_mem (List.mem_append_left _ (List.mem_of_getElem? (i := 25) (by decide +kernel))) (by decide +kernel)⟩
theorem cv_X1_commonLetters : CV mX1_commonLetters 2 := ⟨⟨WT_mem (List.mem_append_right _ (List.mem_of_getElem? (i := 417) (by decide +kernel))) (by decide +kernel), WT_mem (List.mem_append_right _ (List.mem_of_getElem? (i := 7) (by decide +kernel))) (by decide +kernel), by decide +kernel, by decide⟩, WT_mem (List.mem_append_right _ (List.mem_of_getElem? (i := 416) (by decide +kernel))) (by decide +kernel), WT_mem (List.mem_append_left _ (List.mem_of_getElem? (i := 35) (by decide +kernel))) (by decide +kernel)⟩
theorem cv_X1_fraction : CV mX1_fraction 2 := ⟨⟨WT_mem (List.mem_append_right _ (List.mem_of_getElem? (i := 410) (by decide +kernel))) (by decide +kernel), WT_mem (List.mem_append_right _ (List.mem_of_getElem? (i := 7) (by decide +kernel))) (by decide +kernel), by decide +kernel, by decide⟩, WT_mem (List.mem_append_right _ (List.mem_of_getElem? (i := 409) (by decide +kernel))) (by decide +kernel), WT_mem (List.mem_append_left _ (List.mem_of_getElem? (i := 34) (by decide +kernel))) (by decide +kernel)⟩
theorem cv_X2_compare : CV mX2_compare 0 := ⟨⟨WT_mem (List.mem_append_right _ (List.mem_of_getElem? (i := 327) (by decide +kernel))) (by decide +kernel), WT_mem (List.mem_append_right _ (List.mem_of_getElem? (i := 4) (by decide +kernel))) (by decide +kernel), by decide +kernel, by decide⟩, WT_mem (List.mem_append_right _ (List.mem_of_getElem? (i := 326) (by decide +kernel))) (by decide +kernel), WT_mem (List.mem_append_left _ (List.mem_of_getElem? (i := 15) (by decide +kernel))) (by decide +kernel)⟩
theorem cv_X2_kept : CV mX2_kept 0 := ⟨⟨WT_mem (List.mem_append_right _ (List.mem_of_getElem? (i := 542) (by decide +kernel))) (by decide +kernel), WT_mem (List.mem_append_right _ (List.mem_of_getElem? (i := 4) (by decide +kernel))) (by decide +kernel), by decide +kernel, by decide⟩, WT_mem (List.mem_append_right _ (List.mem_of_getElem? (i := 541) (by decide +kernel))) (by decide +kernel), WT_mem (List.mem_append_left _ (List.mem_of_getElem? (i := 48) (by decide +kernel))) (by decide +kernel)⟩
theorem cv_X2_notKept : CV mX2_notKept 0 := ⟨⟨WT_mem (List.mem_append_right _ (List.mem_of_getElem? (i := 537) (by decide +kernel))) (by decide +kernel), WT_mem (List.mem_append_right _ (List.mem_of_getElem? (i := 4) (by decide +kernel))) (by decide +kernel), by decide +kernel, by decide⟩, WT_mem (List.mem_append_right _ (List.mem_of_getElem? (i := 536) (by decide +kernel))) (by decide +kernel), WT_mem (List.mem_append_left _ (List.mem_of_getElem? (i := 47) (by decide +kernel))) (by decide +kernel)⟩
theorem cv_X2_shortest : CV mX2_shortest 0 := ⟨⟨WT_mem (List.mem_append_right _ (List.mem_of_getElem? (i := 546) (by decide +kernel))) (by decide +kernel), WT_mem (List.mem_append_right _ (List.mem_of_getElem? (i := 4) (by decide +kernel))) (by decide +kernel), by decide +kernel, by decide⟩, WT_mem (List.mem_append_right _ (List.mem_of_getElem? (i := 545) (by decide +kernel))) (by decide +kernel), WT_mem (List.mem_append_left _ (List.mem_of_getElem? (i := 49) (by decide +kernel))) (by decide +kernel)⟩
theorem cv_X2_keep : CV mX2_keep 2 := ⟨⟨WT_mem (List.mem_append_right _ (List.mem_of_getElem? (i := 339) (by decide +kernel))) (by decide +kernel), WT_mem (List.mem_append_right _ (List.mem_of_getElem? (i := 4) (by decide +kernel))) (by decide +kernel), by decide +kernel, by decide⟩, WT_mem (List.mem_append_right _ (List.mem_of_getElem? (i := 338) (by decide +kernel))) (by decide +kernel), WT_mem (List.mem_append_left _ (List.mem_of_getElem? (i := 18) (by decide +kernel))) (by decide +kernel)⟩
theorem cv_X2_same : CV mX2_same 2 := ⟨⟨WT_mem (List.mem_append_right _ (List.mem_of_getElem? (i := 335) (by decide +kernel))) (by decide +kernel), WT_mem (List.mem_append_right _ (List.mem_of_getElem? (i := 4) (by decide +kernel))) (by decide +kernel), by decide +kernel, by decide⟩, WT_mem (List.mem_append_right _ (List.mem_of_getElem? (i := 334) (by decide +kernel))) (by decide +kernel), WT_mem (List.mem_append_left _ (List.mem_of_getElem? (i := 17) (by decide +kernel))) (by decide +kernel)⟩
theorem cv_X2_matchParts : CV mX2_matchParts 5 := ⟨⟨WT_mem (List.mem_append_right _ (List.mem_of_getElem? (i := 331) (by decide +kernel))) (by decide +kernel), WT_mem (List.mem_append_right _ (List.mem_of_getElem? (i := 4) (by decide +kernel))) (by decide +kernel), by decide +kernel, by decide⟩, WT_mem (List.mem_append_right _ (List.mem_of_getElem? (i := 330) (by decide +kernel))) (by decide +kernel), WT_mem (List.mem_append_left _ (List.mem_of_getElem? (i := 16) (by decide +kernel))) (by decide +kernel)⟩
theorem cv_X2_findAnchors : CV mX2_findAnchors 4 := ⟨⟨WT_mem (List.mem_append_right _ (List.mem_of_getElem? (i := 343) (by decide +kernel))) (by decide +kernel), WT_mem (List.mem_append_right _ (List.mem_of_getElem? (i := 4) (by decide +kernel))) (by decide +kernel), by decide +kernel, by decide⟩, WT_mem (List.mem_append_right _ (List.mem_of_getElem? (i := 342) (by decide +kernel))) (by decide +kernel), WT_mem (List.mem_append_left _ (List.mem_of_getElem? (i := 19) (by decide +kernel))) (by decide +kernel)⟩
theorem cv_X2_onlyPlaceOf : CV mX2_onlyPlaceOf 4 := ⟨⟨WT_mem (List.mem_append_right _ (List.mem_of_getElem? (i := 347) (by decide +kernel))) (by decide +kernel), WT_mem (List.mem_append_right _ (List.mem_of_getElem? (i := 4) (by decide +kernel))) (by decide +kernel), by decide +kernel, by decide⟩, WT_mem (List.mem_append_right _ (List.mem_of_getElem? (i := 346) (by decide +kernel))) (by decide +kernel), WT_mem (List.mem_append_left _ (List.mem_of_getElem? (i := 20) (by decide +kernel))) (by decide +kernel)⟩
theorem cv_X2_keepLongestChain : CV mX2_keepLongestChain 2 := ⟨⟨WT_mem (List.mem_append_right _ (List.mem_of_getElem? (i := 351) (by decide +kernel))) (by decide +kernel), WT_mem (List.mem_append_right _ (List.mem_of_getElem? (i := 4) (by decide +kernel))) (by decide +kernel), by decide +kernel, by decide⟩, WT_mem (List.mem_append_right _ (List.mem_of_getElem? (i := 350) (by decide +kernel))) (by decide +kernel), WT_mem (List.mem_append_left _ (List.mem_of_getElem? (i := 21) (by decide +kernel))) (by decide +kernel)⟩
theorem cv_X2_measureChains : CV mX2_measureChains 2 := ⟨⟨WT_mem (List.mem_append_right _ (List.mem_of_getElem? (i := 355) (by decide +kernel))) (by decide +kernel), WT_mem (List.mem_append_right _ (List.mem_of_getElem? (i := 4) (by decide +kernel))) (by decide +kernel), by decide +kernel, by decide⟩, WT_mem (List.mem_append_right _ (List.mem_of_getElem? (i := 354) (by decide +kernel))) (by decide +kernel), WT_mem (List.mem_append_left _ (List.mem_of_getElem? (i := 22) (by decide +kernel))) (by decide +kernel)⟩
theorem cv_X2_matchBetweenAnchors : CV mX2_matchBetweenAnchors 5 := ⟨⟨WT_mem (List.mem_append_right _ (List.mem_of_getElem? (i := 362) (by decide +kernel))) (by decide +kernel), WT_mem (List.mem_append_right _ (List.mem_of_getElem? (i := 4) (by decide +kernel))) (by decide +kernel), by decide +kernel, by decide⟩, WT_mem (List.mem_append_right _ (List.mem_of_getElem? (i := 361) (by decide +kernel))) (by decide +kernel), WT_mem (List.mem_append_left _ (List.mem_of_getElem? (i := 23) (by decide +kernel))) (by decide +kernel)⟩
theorem cv_X2_keepMost : CV mX2_keepMost 4 := ⟨⟨WT_mem (List.mem_append_right _ (List.mem_of_getElem? (i := 366) (by decide +kernel))) (by decide +kernel), WT_mem (List.mem_append_right _ (List.mem_of_getElem? (i := 4) (by decide +kernel))) (by decide +kernel), by decide +kernel, by decide⟩, WT_mem (List.mem_append_right _ (List.mem_of_getElem? (i := 365) (by decide +kernel))) (by decide +kernel), WT_mem (List.mem_append_left _ (List.mem_of_getElem? (i := 24) (by decide +kernel))) (by decide +kernel)⟩
theorem cv_X2_slideGaps : CV mX2_slideGaps 0 := ⟨⟨WT_mem (List.mem_append_right _ (List.mem_of_getElem? (i := 375) (by decide +kernel))) (by decide +kernel), WT_mem (List.mem_append_right _ (List.mem_of_getElem? (i := 4) (by decide +kernel))) (by decide +kernel), by decide +kernel, by decide⟩, WT_mem (List.mem_append_right _ (List.mem_of_getElem? (i := 374) (by decide +kernel))) (by decide +kernel), WT_mem (List.mem_append_left _ (List.mem_of_getElem? (i := 26) (by decide +kernel))) (by decide +kernel)⟩
theorem cv_X2_widenGap : CV mX2_widenGap 0 := ⟨⟨WT_mem (List.mem_append_right _ (List.mem_of_getElem? (i := 379) (by decide +kernel))) (by decide +kernel), WT_mem (List.mem_append_right _ (List.mem_of_getElem? (i := 4) (by decide +kernel))) (by decide +kernel), by decide +kernel, by decide⟩, WT_mem (List.mem_append_right _ (List.mem_of_getElem? (i := 378) (by decide +kernel))) (by decide +kernel), WT_mem (List.mem_append_left _ (List.mem_of_getElem? (i := 27) (by decide +kernel))) (by decide +kernel)⟩
theorem cv_X2_slideGap : CV mX2_slideGap 0 := ⟨⟨WT_mem (List.mem_append_right _ (List.mem_of_getElem? (i := 383) (by decide +kernel))) (by decide +kernel), WT_mem (List.mem_append_right _ (List.mem_of_getElem? (i := 4) (by decide +kernel))) (by decide +kernel), by decide +kernel, by decide⟩, WT_mem (List.mem_append_right _ (List.mem_of_getElem? (i := 382) (by decide +kernel))) (by decide +kernel), WT_mem (List.mem_append_left _ (List.mem_of_getElem? (i := 28) (by decide +kernel))) (by decide +kernel)⟩
theorem cv_X2_maySlide : CV mX2_maySlide 1 := ⟨⟨WT_mem (List.mem_append_right _ (List.mem_of_getElem? (i := 387) (by decide +kernel))) (by decide +kernel), WT_mem (List.mem_append_right _ (List.mem_of_getElem? (i := 4) (by decide +kernel))) (by decide +kernel), by decide +kernel, by decide⟩, WT_mem (List.mem_append_right _ (List.mem_of_getElem? (i := 386) (by decide +kernel))) (by decide +kernel), WT_mem (List.mem_append_left _ (List.mem_of_getElem? (i := 29) (by decide +kernel))) (by decide +kernel)⟩
theorem cv_X2_slideOnce : CV mX2_slideOnce 1 := ⟨⟨WT_mem (List.mem_append_right _ (List.mem_of_getElem? (i := 391) (by decide +kernel))) (by decide +kernel), WT_mem (List.mem_append_right _ (List.mem_of_getElem? (i := 4) (by decide +kernel))) (by decide +kernel), by decide +kernel, by decide⟩, WT_mem (List.mem_append_right _ (List.mem_of_getElem? (i := 390) (by decide +kernel))) (by decide +kernel), WT_mem (List.mem_append_left _ (List.mem_of_getElem? (i := 30) (by decide +kernel))) (by decide +kernel)⟩
theorem cv_X3_append : CV mX3_append 1 := ⟨⟨WT_mem (List.mem_append_right _ (List.mem_of_getElem? (i := 247) (by decide +kernel))) (by decide +kernel), WT_mem (List.mem_append_right _ (List.mem_of_getElem? (i := 2) (by decide +kernel))) (by decide +kernel), by decide +kernel, by decide⟩, WT_mem (List.mem_append_right _ (List.mem_of_getElem? (i := 246) (by decide +kernel))) (by decide +kernel), WT_mem (List.mem_append_left _ (List.mem_of_getElem? (i := 0) (by decide +kernel))) (by decide +kernel)⟩
theorem cv_X3_firstFault : CV mX3_firstFault 0 := ⟨⟨WT_mem (List.mem_append_right _ (List.mem_of_getElem? (i := 259) (by decide +kernel))) (by decide +kernel), WT_mem (List.mem_append_right _ (List.mem_of_getElem? (i := 2) (by decide +kernel))) (by decide +kernel), by decide +kernel, by decide⟩, WT_mem (List.mem_append_right _ (List.mem_of_getElem? (i := 258) (by decide +kernel))) (by decide +kernel), WT_mem (List.mem_append_left _ (List.mem_of_getElem? (i := 1) (by decide +kernel))) (by decide +kernel)⟩
theorem cv_X3_isText : CV mX3_isText 0 := ⟨⟨WT_mem (List.mem_append_right _ (List.mem_of_getElem? (i := 294) (by decide +kernel))) (by decide +kernel), WT_mem (List.mem_append_right _ (List.mem_of_getElem? (i := 2) (by decide +kernel))) (by decide +kernel), by decide +kernel, by decide⟩, WT_mem (List.mem_append_right _ (List.mem_of_getElem? (i := 293) (by decide +kernel))) (by decide +kernel), WT_mem (List.mem_append_left _ (List.mem_of_getElem? (i := 8) (by decide +kernel))) (by decide +kernel)⟩
theorem cv_X3_readInto : CV mX3_readInto 1 := ⟨⟨WT_mem (List.mem_append_right _ (List.mem_of_getElem? (i := 303) (by decide +kernel))) (by decide +kernel), WT_mem (List.mem_append_right _ (List.mem_of_getElem? (i := 2) (by decide +kernel))) (by decide +kernel), by decide +kernel, by decide⟩, WT_mem (List.mem_append_right _ (List.mem_of_getElem? (i := 302) (by decide +kernel))) (by decide +kernel), WT_mem (List.mem_append_left _ (List.mem_of_getElem? (i := 10) (by decide +kernel))) (by decide +kernel)⟩
theorem cv_X4_clear : CV mX4_clear 0 := ⟨⟨WT_mem (List.mem_append_right _ (List.mem_of_getElem? (i := 445) (by decide +kernel))) (by decide +kernel), WT_mem (List.mem_append_right _ (List.mem_of_getElem? (i := 9) (by decide +kernel))) (by decide +kernel), by decide +kernel, by decide⟩, WT_mem (List.mem_append_right _ (List.mem_of_getElem? (i := 444) (by decide +kernel))) (by decide +kernel), WT_mem (List.mem_append_left _ (List.mem_of_getElem? (i := 39) (by decide +kernel))) (by decide +kernel)⟩
theorem cv_X4_append : CV mX4_append 2 := ⟨⟨WT_mem (List.mem_append_right _ (List.mem_of_getElem? (i := 490) (by decide +kernel))) (by decide +kernel), WT_mem (List.mem_append_right _ (List.mem_of_getElem? (i := 9) (by decide +kernel))) (by decide +kernel), by decide +kernel, by decide⟩, WT_mem (List.mem_append_right _ (List.mem_of_getElem? (i := 489) (by decide +kernel))) (by decide +kernel), WT_mem (List.mem_append_left _ (List.mem_of_getElem? (i := 43) (by decide +kernel))) (by decide +kernel)⟩
theorem cv_X4_total : CV mX4_total 0 := ⟨⟨WT_mem (List.mem_append_right _ (List.mem_of_getElem? (i := 607) (by decide +kernel))) (by decide +kernel), WT_mem (List.mem_append_right _ (List.mem_of_getElem? (i := 9) (by decide +kernel))) (by decide +kernel), by decide +kernel, by decide⟩, WT_mem (List.mem_append_right _ (List.mem_of_getElem? (i := 606) (by decide +kernel))) (by decide +kernel), WT_mem (List.mem_append_left _ (List.mem_of_getElem? (i := 54) (by decide +kernel))) (by decide +kernel)⟩
theorem cv_X5_begin : CV mX5_begin 0 := ⟨⟨WT_mem (List.mem_append_right _ (List.mem_of_getElem? (i := 263) (by decide +kernel))) (by decide +kernel), WT_mem (List.mem_append_right _ (List.mem_of_getElem? (i := 3) (by decide +kernel))) (by decide +kernel), by decide +kernel, by decide⟩, WT_mem (List.mem_append_right _ (List.mem_of_getElem? (i := 262) (by decide +kernel))) (by decide +kernel), WT_mem (List.mem_append_left _ (List.mem_of_getElem? (i := 2) (by decide +kernel))) (by decide +kernel)⟩
theorem cv_X5_takes : CV mX5_takes 1 := ⟨⟨WT_mem (List.mem_append_right _ (List.mem_of_getElem? (i := 267) (by decide +kernel))) (by decide +kernel), WT_mem (List.mem_append_right _ (List.mem_of_getElem? (i := 3) (by decide +kernel))) (by decide +kernel), by decide +kernel, by decide⟩, WT_mem (List.mem_append_right _ (List.mem_of_getElem? (i := 266) (by decide +kernel))) (by decide +kernel), WT_mem (List.mem_append_left _ (List.mem_of_getElem? (i := 3) (by decide +kernel))) (by decide +kernel)⟩
theorem cv_X5_takesLetter : CV mX5_takesLetter 0 := ⟨⟨WT_mem (List.mem_append_right _ (List.mem_of_getElem? (i := 274) (by decide +kernel))) (by decide +kernel), WT_mem (List.mem_append_right _ (List.mem_of_getElem? (i := 3) (by decide +kernel))) (by decide +kernel), by decide +kernel, by decide⟩, WT_mem (List.mem_append_right _ (List.mem_of_getElem? (i := 273) (by decide +kernel))) (by decide +kernel), WT_mem (List.mem_append_left _ (List.mem_of_getElem? (i := 4) (by decide +kernel))) (by decide +kernel)⟩
theorem cv_X5_takesComma : CV mX5_takesComma 0 := ⟨⟨WT_mem (List.mem_append_right _ (List.mem_of_getElem? (i := 278) (by decide +kernel))) (by decide +kernel), WT_mem (List.mem_append_right _ (List.mem_of_getElem? (i := 3) (by decide +kernel))) (by decide +kernel), by decide +kernel, by decide⟩, WT_mem (List.mem_append_right _ (List.mem_of_getElem? (i := 277) (by decide +kernel))) (by decide +kernel), WT_mem (List.mem_append_left _ (List.mem_of_getElem? (i := 5) (by decide +kernel))) (by decide +kernel)⟩
theorem cv_X5_takesSemicolon : CV mX5_takesSemicolon 0 := ⟨⟨WT_mem (List.mem_append_right _ (List.mem_of_getElem? (i := 282) (by decide +kernel))) (by decide +kernel), WT_mem (List.mem_append_right _ (List.mem_of_getElem? (i := 3) (by decide +kernel))) (by decide +kernel), by decide +kernel, by decide⟩, WT_mem (List.mem_append_right _ (List.mem_of_getElem? (i := 281) (by decide +kernel))) (by decide +kernel), WT_mem (List.mem_append_left _ (List.mem_of_getElem? (i := 6) (by decide +kernel))) (by decide +kernel)⟩
theorem cv_X5_mayEnd : CV mX5_mayEnd 0 := ⟨⟨WT_mem (List.mem_append_right _ (List.mem_of_getElem? (i := 299) (by decide +kernel))) (by decide +kernel), WT_mem (List.mem_append_right _ (List.mem_of_getElem? (i := 3) (by decide +kernel))) (by decide +kernel), by decide +kernel, by decide⟩, WT_mem (List.mem_append_right _ (List.mem_of_getElem? (i := 298) (by decide +kernel))) (by decide +kernel), WT_mem (List.mem_append_left _ (List.mem_of_getElem? (i := 9) (by decide +kernel))) (by decide +kernel)⟩
theorem cv_X5_sideMayEnd : CV mX5_sideMayEnd 0 := ⟨⟨WT_mem (List.mem_append_right _ (List.mem_of_getElem? (i := 286) (by decide +kernel))) (by decide +kernel), WT_mem (List.mem_append_right _ (List.mem_of_getElem? (i := 3) (by decide +kernel))) (by decide +kernel), by decide +kernel, by decide⟩, WT_mem (List.mem_append_right _ (List.mem_of_getElem? (i := 285) (by decide +kernel))) (by decide +kernel), WT_mem (List.mem_append_left _ (List.mem_of_getElem? (i := 7) (by decide +kernel))) (by decide +kernel)⟩
theorem cv_X6_has : CV mX6_has 1 := ⟨⟨WT_mem (List.mem_append_right _ (List.mem_of_getElem? (i := 466) (by decide +kernel))) (by decide +kernel), WT_mem (List.mem_append_right _ (List.mem_of_getElem? (i := 8) (by decide +kernel))) (by decide +kernel), by decide +kernel, by decide⟩, WT_mem (List.mem_append_right _ (List.mem_of_getElem? (i := 465) (by decide +kernel))) (by decide +kernel), WT_mem (List.mem_append_left _ (List.mem_of_getElem? (i := 42) (by decide +kernel))) (by decide +kernel)⟩
theorem cv_X6_howManyOf : CV mX6_howManyOf 1 := ⟨⟨WT_mem (List.mem_append_right _ (List.mem_of_getElem? (i := 603) (by decide +kernel))) (by decide +kernel), WT_mem (List.mem_append_right _ (List.mem_of_getElem? (i := 8) (by decide +kernel))) (by decide +kernel), by decide +kernel, by decide⟩, WT_mem (List.mem_append_right _ (List.mem_of_getElem? (i := 602) (by decide +kernel))) (by decide +kernel), WT_mem (List.mem_append_left _ (List.mem_of_getElem? (i := 53) (by decide +kernel))) (by decide +kernel)⟩
theorem cv_X6_build : CV mX6_build 2 := ⟨⟨WT_mem (List.mem_append_right _ (List.mem_of_getElem? (i := 395) (by decide +kernel))) (by decide +kernel), WT_mem (List.mem_append_right _ (List.mem_of_getElem? (i := 8) (by decide +kernel))) (by decide +kernel), by decide +kernel, by decide⟩, WT_mem (List.mem_append_right _ (List.mem_of_getElem? (i := 394) (by decide +kernel))) (by decide +kernel), WT_mem (List.mem_append_left _ (List.mem_of_getElem? (i := 31) (by decide +kernel))) (by decide +kernel)⟩
theorem cv_X6_nextKept : CV mX6_nextKept 3 := ⟨⟨WT_mem (List.mem_append_right _ (List.mem_of_getElem? (i := 399) (by decide +kernel))) (by decide +kernel), WT_mem (List.mem_append_right _ (List.mem_of_getElem? (i := 8) (by decide +kernel))) (by decide +kernel), by decide +kernel, by decide⟩, WT_mem (List.mem_append_right _ (List.mem_of_getElem? (i := 398) (by decide +kernel))) (by decide +kernel), WT_mem (List.mem_append_left _ (List.mem_of_getElem? (i := 32) (by decide +kernel))) (by decide +kernel)⟩
theorem cv_X6_findChanged : CV mX6_findChanged 6 := ⟨⟨WT_mem (List.mem_append_right _ (List.mem_of_getElem? (i := 403) (by decide +kernel))) (by decide +kernel), WT_mem (List.mem_append_right _ (List.mem_of_getElem? (i := 8) (by decide +kernel))) (by decide +kernel), by decide +kernel, by decide⟩, WT_mem (List.mem_append_right _ (List.mem_of_getElem? (i := 402) (by decide +kernel))) (by decide +kernel), WT_mem (List.mem_append_left _ (List.mem_of_getElem? (i := 33) (by decide +kernel))) (by decide +kernel)⟩
theorem cv_X6_addDropped : CV mX6_addDropped 2 := ⟨⟨WT_mem (List.mem_append_right _ (List.mem_of_getElem? (i := 427) (by decide +kernel))) (by decide +kernel), WT_mem (List.mem_append_right _ (List.mem_of_getElem? (i := 8) (by decide +kernel))) (by decide +kernel), by decide +kernel, by decide⟩, WT_mem (List.mem_append_right _ (List.mem_of_getElem? (i := 426) (by decide +kernel))) (by decide +kernel), WT_mem (List.mem_append_left _ (List.mem_of_getElem? (i := 36) (by decide +kernel))) (by decide +kernel)⟩
theorem cv_X6_addAdded : CV mX6_addAdded 4 := ⟨⟨WT_mem (List.mem_append_right _ (List.mem_of_getElem? (i := 440) (by decide +kernel))) (by decide +kernel), WT_mem (List.mem_append_right _ (List.mem_of_getElem? (i := 8) (by decide +kernel))) (by decide +kernel), by decide +kernel, by decide⟩, WT_mem (List.mem_append_right _ (List.mem_of_getElem? (i := 439) (by decide +kernel))) (by decide +kernel), WT_mem (List.mem_append_left _ (List.mem_of_getElem? (i := 38) (by decide +kernel))) (by decide +kernel)⟩
theorem cv_X6_addStep : CV mX6_addStep 5 := ⟨⟨WT_mem (List.mem_append_right _ (List.mem_of_getElem? (i := 431) (by decide +kernel))) (by decide +kernel), WT_mem (List.mem_append_right _ (List.mem_of_getElem? (i := 8) (by decide +kernel))) (by decide +kernel), by decide +kernel, by decide⟩, WT_mem (List.mem_append_right _ (List.mem_of_getElem? (i := 430) (by decide +kernel))) (by decide +kernel), WT_mem (List.mem_append_left _ (List.mem_of_getElem? (i := 37) (by decide +kernel))) (by decide +kernel)⟩
theorem cv_X7_has : CV mX7_has 2 := ⟨⟨WT_mem (List.mem_append_right _ (List.mem_of_getElem? (i := 457) (by decide +kernel))) (by decide +kernel), WT_mem (List.mem_append_right _ (List.mem_of_getElem? (i := 5) (by decide +kernel))) (by decide +kernel), by decide +kernel, by decide⟩, WT_mem (List.mem_append_right _ (List.mem_of_getElem? (i := 456) (by decide +kernel))) (by decide +kernel), WT_mem (List.mem_append_left _ (List.mem_of_getElem? (i := 41) (by decide +kernel))) (by decide +kernel)⟩
theorem cv_X7_total : CV mX7_total 0 := ⟨⟨WT_mem (List.mem_append_right _ (List.mem_of_getElem? (i := 449) (by decide +kernel))) (by decide +kernel), WT_mem (List.mem_append_right _ (List.mem_of_getElem? (i := 5) (by decide +kernel))) (by decide +kernel), by decide +kernel, by decide⟩, WT_mem (List.mem_append_right _ (List.mem_of_getElem? (i := 448) (by decide +kernel))) (by decide +kernel), WT_mem (List.mem_append_left _ (List.mem_of_getElem? (i := 40) (by decide +kernel))) (by decide +kernel)⟩
theorem cv_X7_clear : CV mX7_clear 0 := ⟨⟨WT_mem (List.mem_append_right _ (List.mem_of_getElem? (i := 307) (by decide +kernel))) (by decide +kernel), WT_mem (List.mem_append_right _ (List.mem_of_getElem? (i := 5) (by decide +kernel))) (by decide +kernel), by decide +kernel, by decide⟩, WT_mem (List.mem_append_right _ (List.mem_of_getElem? (i := 306) (by decide +kernel))) (by decide +kernel), WT_mem (List.mem_append_left _ (List.mem_of_getElem? (i := 11) (by decide +kernel))) (by decide +kernel)⟩
theorem cv_X7_copyFrom : CV mX7_copyFrom 1 := ⟨⟨WT_mem (List.mem_append_right _ (List.mem_of_getElem? (i := 558) (by decide +kernel))) (by decide +kernel), WT_mem (List.mem_append_right _ (List.mem_of_getElem? (i := 5) (by decide +kernel))) (by decide +kernel), by decide +kernel, by decide⟩, WT_mem (List.mem_append_right _ (List.mem_of_getElem? (i := 557) (by decide +kernel))) (by decide +kernel), WT_mem (List.mem_append_left _ (List.mem_of_getElem? (i := 51) (by decide +kernel))) (by decide +kernel)⟩
theorem cv_X7_appendLine : CV mX7_appendLine 2 := ⟨⟨WT_mem (List.mem_append_right _ (List.mem_of_getElem? (i := 312) (by decide +kernel))) (by decide +kernel), WT_mem (List.mem_append_right _ (List.mem_of_getElem? (i := 5) (by decide +kernel))) (by decide +kernel), by decide +kernel, by decide⟩, WT_mem (List.mem_append_right _ (List.mem_of_getElem? (i := 311) (by decide +kernel))) (by decide +kernel), WT_mem (List.mem_append_left _ (List.mem_of_getElem? (i := 12) (by decide +kernel))) (by decide +kernel)⟩
theorem cv_X7_insert : CV mX7_insert 3 := ⟨⟨WT_mem (List.mem_append_right _ (List.mem_of_getElem? (i := 316) (by decide +kernel))) (by decide +kernel), WT_mem (List.mem_append_right _ (List.mem_of_getElem? (i := 5) (by decide +kernel))) (by decide +kernel), by decide +kernel, by decide⟩, WT_mem (List.mem_append_right _ (List.mem_of_getElem? (i := 315) (by decide +kernel))) (by decide +kernel), WT_mem (List.mem_append_left _ (List.mem_of_getElem? (i := 13) (by decide +kernel))) (by decide +kernel)⟩
theorem cv_X7_remove : CV mX7_remove 2 := ⟨⟨WT_mem (List.mem_append_right _ (List.mem_of_getElem? (i := 512) (by decide +kernel))) (by decide +kernel), WT_mem (List.mem_append_right _ (List.mem_of_getElem? (i := 5) (by decide +kernel))) (by decide +kernel), by decide +kernel, by decide⟩, WT_mem (List.mem_append_right _ (List.mem_of_getElem? (i := 511) (by decide +kernel))) (by decide +kernel), WT_mem (List.mem_append_left _ (List.mem_of_getElem? (i := 44) (by decide +kernel))) (by decide +kernel)⟩
theorem cv_X7_exchangeLines : CV mX7_exchangeLines 3 := ⟨⟨WT_mem (List.mem_append_right _ (List.mem_of_getElem? (i := 521) (by decide +kernel))) (by decide +kernel), WT_mem (List.mem_append_right _ (List.mem_of_getElem? (i := 5) (by decide +kernel))) (by decide +kernel), by decide +kernel, by decide⟩, WT_mem (List.mem_append_right _ (List.mem_of_getElem? (i := 520) (by decide +kernel))) (by decide +kernel), WT_mem (List.mem_append_left _ (List.mem_of_getElem? (i := 45) (by decide +kernel))) (by decide +kernel)⟩
theorem cv_X7_exchangeSides : CV mX7_exchangeSides 0 := ⟨⟨WT_mem (List.mem_append_right _ (List.mem_of_getElem? (i := 529) (by decide +kernel))) (by decide +kernel), WT_mem (List.mem_append_right _ (List.mem_of_getElem? (i := 5) (by decide +kernel))) (by decide +kernel), by decide +kernel, by decide⟩, WT_mem (List.mem_append_right _ (List.mem_of_getElem? (i := 528) (by decide +kernel))) (by decide +kernel), WT_mem (List.mem_append_left _ (List.mem_of_getElem? (i := 46) (by decide +kernel))) (by decide +kernel)⟩
theorem cv_X8_letter : CV mX8_letter 1 := ⟨⟨WT_mem (List.mem_append_right _ (List.mem_of_getElem? (i := 243) (by decide +kernel))) (by decide +kernel), WT_mem (List.mem_append_right _ (List.mem_of_getElem? (i := 1) (by decide +kernel))) (by decide +kernel), by decide +kernel, by decide⟩, WT_mem (List.mem_append_right _ (List.mem_of_getElem? (i := 241) (by decide +kernel))) (by decide +kernel), WT_mem (List.mem_append_right _ (List.mem_of_getElem? (i := 242) (by decide +kernel))) (by decide +kernel)⟩
theorem cv_X8_blank : CV mX8_blank 0 := ⟨⟨WT_mem (List.mem_append_right _ (List.mem_of_getElem? (i := 251) (by decide +kernel))) (by decide +kernel), WT_mem (List.mem_append_right _ (List.mem_of_getElem? (i := 1) (by decide +kernel))) (by decide +kernel), by decide +kernel, by decide⟩, WT_mem (List.mem_append_right _ (List.mem_of_getElem? (i := 249) (by decide +kernel))) (by decide +kernel), WT_mem (List.mem_append_right _ (List.mem_of_getElem? (i := 250) (by decide +kernel))) (by decide +kernel)⟩
theorem cv_X8_fault : CV mX8_fault 0 := ⟨⟨WT_mem (List.mem_append_right _ (List.mem_of_getElem? (i := 255) (by decide +kernel))) (by decide +kernel), WT_mem (List.mem_append_right _ (List.mem_of_getElem? (i := 1) (by decide +kernel))) (by decide +kernel), by decide +kernel, by decide⟩, WT_mem (List.mem_append_right _ (List.mem_of_getElem? (i := 253) (by decide +kernel))) (by decide +kernel), WT_mem (List.mem_append_right _ (List.mem_of_getElem? (i := 254) (by decide +kernel))) (by decide +kernel)⟩
theorem cv_X8_text : CV mX8_text 0 := ⟨⟨WT_mem (List.mem_append_right _ (List.mem_of_getElem? (i := 290) (by decide +kernel))) (by decide +kernel), WT_mem (List.mem_append_right _ (List.mem_of_getElem? (i := 1) (by decide +kernel))) (by decide +kernel), by decide +kernel, by decide⟩, WT_mem (List.mem_append_right _ (List.mem_of_getElem? (i := 288) (by decide +kernel))) (by decide +kernel), WT_mem (List.mem_append_right _ (List.mem_of_getElem? (i := 289) (by decide +kernel))) (by decide +kernel)⟩
theorem cv_X8_line : CV mX8_line 3 := ⟨⟨WT_mem (List.mem_append_right _ (List.mem_of_getElem? (i := 453) (by decide +kernel))) (by decide +kernel), WT_mem (List.mem_append_right _ (List.mem_of_getElem? (i := 1) (by decide +kernel))) (by decide +kernel), by decide +kernel, by decide⟩, WT_mem (List.mem_append_right _ (List.mem_of_getElem? (i := 451) (by decide +kernel))) (by decide +kernel), WT_mem (List.mem_append_right _ (List.mem_of_getElem? (i := 452) (by decide +kernel))) (by decide +kernel)⟩
theorem cv_X8_step : CV mX8_step 2 := ⟨⟨WT_mem (List.mem_append_right _ (List.mem_of_getElem? (i := 462) (by decide +kernel))) (by decide +kernel), WT_mem (List.mem_append_right _ (List.mem_of_getElem? (i := 1) (by decide +kernel))) (by decide +kernel), by decide +kernel, by decide⟩, WT_mem (List.mem_append_right _ (List.mem_of_getElem? (i := 460) (by decide +kernel))) (by decide +kernel), WT_mem (List.mem_append_right _ (List.mem_of_getElem? (i := 461) (by decide +kernel))) (by decide +kernel)⟩
theorem cv_X8_letters : CV mX8_letters 2 := ⟨⟨WT_mem (List.mem_append_right _ (List.mem_of_getElem? (i := 470) (by decide +kernel))) (by decide +kernel), WT_mem (List.mem_append_right _ (List.mem_of_getElem? (i := 1) (by decide +kernel))) (by decide +kernel), by decide +kernel, by decide⟩, WT_mem (List.mem_append_right _ (List.mem_of_getElem? (i := 468) (by decide +kernel))) (by decide +kernel), WT_mem (List.mem_append_right _ (List.mem_of_getElem? (i := 469) (by decide +kernel))) (by decide +kernel)⟩
theorem cv_X8_like : CV mX8_like 2 := ⟨⟨WT_mem (List.mem_append_right _ (List.mem_of_getElem? (i := 480) (by decide +kernel))) (by decide +kernel), WT_mem (List.mem_append_right _ (List.mem_of_getElem? (i := 1) (by decide +kernel))) (by decide +kernel), by decide +kernel, by decide⟩, WT_mem (List.mem_append_right _ (List.mem_of_getElem? (i := 478) (by decide +kernel))) (by decide +kernel), WT_mem (List.mem_append_right _ (List.mem_of_getElem? (i := 479) (by decide +kernel))) (by decide +kernel)⟩
theorem cv_X8_rack : CV mX8_rack 2 := ⟨⟨WT_mem (List.mem_append_right _ (List.mem_of_getElem? (i := 486) (by decide +kernel))) (by decide +kernel), WT_mem (List.mem_append_right _ (List.mem_of_getElem? (i := 1) (by decide +kernel))) (by decide +kernel), by decide +kernel, by decide⟩, WT_mem (List.mem_append_right _ (List.mem_of_getElem? (i := 484) (by decide +kernel))) (by decide +kernel), WT_mem (List.mem_append_right _ (List.mem_of_getElem? (i := 485) (by decide +kernel))) (by decide +kernel)⟩
theorem cv_X8_racked : CV mX8_racked 2 := ⟨⟨WT_mem (List.mem_append_right _ (List.mem_of_getElem? (i := 494) (by decide +kernel))) (by decide +kernel), WT_mem (List.mem_append_right _ (List.mem_of_getElem? (i := 1) (by decide +kernel))) (by decide +kernel), by decide +kernel, by decide⟩, WT_mem (List.mem_append_right _ (List.mem_of_getElem? (i := 492) (by decide +kernel))) (by decide +kernel), WT_mem (List.mem_append_right _ (List.mem_of_getElem? (i := 493) (by decide +kernel))) (by decide +kernel)⟩
theorem cv_X8_put : CV mX8_put 3 := ⟨⟨WT_mem (List.mem_append_right _ (List.mem_of_getElem? (i := 498) (by decide +kernel))) (by decide +kernel), WT_mem (List.mem_append_right _ (List.mem_of_getElem? (i := 1) (by decide +kernel))) (by decide +kernel), by decide +kernel, by decide⟩, WT_mem (List.mem_append_right _ (List.mem_of_getElem? (i := 496) (by decide +kernel))) (by decide +kernel), WT_mem (List.mem_append_right _ (List.mem_of_getElem? (i := 497) (by decide +kernel))) (by decide +kernel)⟩
theorem cv_X8_take : CV mX8_take 2 := ⟨⟨WT_mem (List.mem_append_right _ (List.mem_of_getElem? (i := 508) (by decide +kernel))) (by decide +kernel), WT_mem (List.mem_append_right _ (List.mem_of_getElem? (i := 1) (by decide +kernel))) (by decide +kernel), by decide +kernel, by decide⟩, WT_mem (List.mem_append_right _ (List.mem_of_getElem? (i := 506) (by decide +kernel))) (by decide +kernel), WT_mem (List.mem_append_right _ (List.mem_of_getElem? (i := 507) (by decide +kernel))) (by decide +kernel)⟩
theorem cv_X8_swap : CV mX8_swap 3 := ⟨⟨WT_mem (List.mem_append_right _ (List.mem_of_getElem? (i := 517) (by decide +kernel))) (by decide +kernel), WT_mem (List.mem_append_right _ (List.mem_of_getElem? (i := 1) (by decide +kernel))) (by decide +kernel), by decide +kernel, by decide⟩, WT_mem (List.mem_append_right _ (List.mem_of_getElem? (i := 515) (by decide +kernel))) (by decide +kernel), WT_mem (List.mem_append_right _ (List.mem_of_getElem? (i := 516) (by decide +kernel))) (by decide +kernel)⟩
theorem cv_X8_turn : CV mX8_turn 0 := ⟨⟨WT_mem (List.mem_append_right _ (List.mem_of_getElem? (i := 525) (by decide +kernel))) (by decide +kernel), WT_mem (List.mem_append_right _ (List.mem_of_getElem? (i := 1) (by decide +kernel))) (by decide +kernel), by decide +kernel, by decide⟩, WT_mem (List.mem_append_right _ (List.mem_of_getElem? (i := 523) (by decide +kernel))) (by decide +kernel), WT_mem (List.mem_append_right _ (List.mem_of_getElem? (i := 524) (by decide +kernel))) (by decide +kernel)⟩
theorem cv_X8_cost : CV mX8_cost 1 := ⟨⟨WT_mem (List.mem_append_right _ (List.mem_of_getElem? (i := 533) (by decide +kernel))) (by decide +kernel), WT_mem (List.mem_append_right _ (List.mem_of_getElem? (i := 1) (by decide +kernel))) (by decide +kernel), by decide +kernel, by decide⟩, WT_mem (List.mem_append_right _ (List.mem_of_getElem? (i := 531) (by decide +kernel))) (by decide +kernel), WT_mem (List.mem_append_right _ (List.mem_of_getElem? (i := 532) (by decide +kernel))) (by decide +kernel)⟩
theorem cv_X8_best : CV mX8_best 1 := ⟨⟨WT_mem (List.mem_append_right _ (List.mem_of_getElem? (i := 550) (by decide +kernel))) (by decide +kernel), WT_mem (List.mem_append_right _ (List.mem_of_getElem? (i := 1) (by decide +kernel))) (by decide +kernel), by decide +kernel, by decide⟩, WT_mem (List.mem_append_right _ (List.mem_of_getElem? (i := 548) (by decide +kernel))) (by decide +kernel), WT_mem (List.mem_append_right _ (List.mem_of_getElem? (i := 549) (by decide +kernel))) (by decide +kernel)⟩
theorem cv_X8_all : CV mX8_all 0 := ⟨⟨WT_mem (List.mem_append_right _ (List.mem_of_getElem? (i := 565) (by decide +kernel))) (by decide +kernel), WT_mem (List.mem_append_right _ (List.mem_of_getElem? (i := 1) (by decide +kernel))) (by decide +kernel), by decide +kernel, by decide⟩, WT_mem (List.mem_append_right _ (List.mem_of_getElem? (i := 563) (by decide +kernel))) (by decide +kernel), WT_mem (List.mem_append_right _ (List.mem_of_getElem? (i := 564) (by decide +kernel))) (by decide +kernel)⟩
theorem cv_X8_drawn : CV mX8_drawn 3 := ⟨⟨WT_mem (List.mem_append_right _ (List.mem_of_getElem? (i := 578) (by decide +kernel))) (by decide +kernel), WT_mem (List.mem_append_right _ (List.mem_of_getElem? (i := 1) (by decide +kernel))) (by decide +kernel), by decide +kernel, by decide⟩, WT_mem (List.mem_append_right _ (List.mem_of_getElem? (i := 576) (by decide +kernel))) (by decide +kernel), WT_mem (List.mem_append_right _ (List.mem_of_getElem? (i := 577) (by decide +kernel))) (by decide +kernel)⟩
theorem cv_X8_image : CV mX8_image 0 := ⟨⟨WT_mem (List.mem_append_right _ (List.mem_of_getElem? (i := 591) (by decide +kernel))) (by decide +kernel), WT_mem (List.mem_append_right _ (List.mem_of_getElem? (i := 1) (by decide +kernel))) (by decide +kernel), by decide +kernel, by decide⟩, WT_mem (List.mem_append_right _ (List.mem_of_getElem? (i := 589) (by decide +kernel))) (by decide +kernel), WT_mem (List.mem_append_right _ (List.mem_of_getElem? (i := 590) (by decide +kernel))) (by decide +kernel)⟩
theorem cv_X8_restore : CV mX8_restore 0 := ⟨⟨WT_mem (List.mem_append_right _ (List.mem_of_getElem? (i := 595) (by decide +kernel))) (by decide +kernel), WT_mem (List.mem_append_right _ (List.mem_of_getElem? (i := 1) (by decide +kernel))) (by decide +kernel), by decide +kernel, by decide⟩, WT_mem (List.mem_append_right _ (List.mem_of_getElem? (i := 593) (by decide +kernel))) (by decide +kernel), WT_mem (List.mem_append_right _ (List.mem_of_getElem? (i := 594) (by decide +kernel))) (by decide +kernel)⟩
theorem cv_X8_count : CV mX8_count 1 := ⟨⟨WT_mem (List.mem_append_right _ (List.mem_of_getElem? (i := 599) (by decide +kernel))) (by decide +kernel), WT_mem (List.mem_append_right _ (List.mem_of_getElem? (i := 1) (by decide +kernel))) (by decide +kernel), by decide +kernel, by decide⟩, WT_mem (List.mem_append_right _ (List.mem_of_getElem? (i := 597) (by decide +kernel))) (by decide +kernel), WT_mem (List.mem_append_right _ (List.mem_of_getElem? (i := 598) (by decide +kernel))) (by decide +kernel)⟩
theorem cv_X8_digest : CV mX8_digest 0 := ⟨⟨WT_mem (List.mem_append_right _ (List.mem_of_getElem? (i := 611) (by decide +kernel))) (by decide +kernel), WT_mem (List.mem_append_right _ (List.mem_of_getElem? (i := 1) (by decide +kernel))) (by decide +kernel), by decide +kernel, by decide⟩, WT_mem (List.mem_append_right _ (List.mem_of_getElem? (i := 609) (by decide +kernel))) (by decide +kernel), WT_mem (List.mem_append_right _ (List.mem_of_getElem? (i := 610) (by decide +kernel))) (by decide +kernel)⟩
theorem cv_X8_digestOfLines : CV mX8_digestOfLines 1 := ⟨⟨WT_mem (List.mem_append_right _ (List.mem_of_getElem? (i := 616) (by decide +kernel))) (by decide +kernel), WT_mem (List.mem_append_right _ (List.mem_of_getElem? (i := 1) (by decide +kernel))) (by decide +kernel), by decide +kernel, by decide⟩, WT_mem (List.mem_append_right _ (List.mem_of_getElem? (i := 615) (by decide +kernel))) (by decide +kernel), WT_mem (List.mem_append_left _ (List.mem_of_getElem? (i := 55) (by decide +kernel))) (by decide +kernel)⟩
theorem cv_X8_digestOfScript : CV mX8_digestOfScript 1 := ⟨⟨WT_mem (List.mem_append_right _ (List.mem_of_getElem? (i := 622) (by decide +kernel))) (by decide +kernel), WT_mem (List.mem_append_right _ (List.mem_of_getElem? (i := 1) (by decide +kernel))) (by decide +kernel), by decide +kernel, by decide⟩, WT_mem (List.mem_append_right _ (List.mem_of_getElem? (i := 621) (by decide +kernel))) (by decide +kernel), WT_mem (List.mem_append_left _ (List.mem_of_getElem? (i := 56) (by decide +kernel))) (by decide +kernel)⟩
theorem cv_X8_compareAnew : CV mX8_compareAnew 0 := ⟨⟨WT_mem (List.mem_append_right _ (List.mem_of_getElem? (i := 323) (by decide +kernel))) (by decide +kernel), WT_mem (List.mem_append_right _ (List.mem_of_getElem? (i := 1) (by decide +kernel))) (by decide +kernel), by decide +kernel, by decide⟩, WT_mem (List.mem_append_right _ (List.mem_of_getElem? (i := 322) (by decide +kernel))) (by decide +kernel), WT_mem (List.mem_append_left _ (List.mem_of_getElem? (i := 14) (by decide +kernel))) (by decide +kernel)⟩
theorem cv_X8_costOfPutting : CV mX8_costOfPutting 2 := ⟨⟨WT_mem (List.mem_append_right _ (List.mem_of_getElem? (i := 554) (by decide +kernel))) (by decide +kernel), WT_mem (List.mem_append_right _ (List.mem_of_getElem? (i := 1) (by decide +kernel))) (by decide +kernel), by decide +kernel, by decide⟩, WT_mem (List.mem_append_right _ (List.mem_of_getElem? (i := 553) (by decide +kernel))) (by decide +kernel), WT_mem (List.mem_append_left _ (List.mem_of_getElem? (i := 50) (by decide +kernel))) (by decide +kernel)⟩
theorem cv_X8_drawTrial : CV mX8_drawTrial 1 := ⟨⟨WT_mem (List.mem_append_right _ (List.mem_of_getElem? (i := 582) (by decide +kernel))) (by decide +kernel), WT_mem (List.mem_append_right _ (List.mem_of_getElem? (i := 1) (by decide +kernel))) (by decide +kernel), by decide +kernel, by decide⟩, WT_mem (List.mem_append_right _ (List.mem_of_getElem? (i := 581) (by decide +kernel))) (by decide +kernel), WT_mem (List.mem_append_left _ (List.mem_of_getElem? (i := 52) (by decide +kernel))) (by decide +kernel)⟩
theorem cs_X8_isSide : CS mX8_isSide 1 := ⟨⟨WT_mem (List.mem_append_right _ (List.mem_of_getElem? (i := 319) (by decide +kernel))) (by decide +kernel), WT_mem (List.mem_append_right _ (List.mem_of_getElem? (i := 1) (by decide +kernel))) (by decide +kernel), by decide +kernel, by decide⟩, WT_mem (List.mem_append_right _ (List.mem_of_getElem? (i := 318) (by decide +kernel))) (by decide +kernel)⟩
theorem cs_X8_isLetter : CS mX8_isLetter 1 := ⟨⟨WT_mem (List.mem_append_right _ (List.mem_of_getElem? (i := 270) (by decide +kernel))) (by decide +kernel), WT_mem (List.mem_append_right _ (List.mem_of_getElem? (i := 1) (by decide +kernel))) (by decide +kernel), by decide +kernel, by decide⟩, WT_mem (List.mem_append_right _ (List.mem_of_getElem? (i := 269) (by decide +kernel))) (by decide +kernel)⟩
theorem cs_X8_isLine : CS mX8_isLine 1 := ⟨⟨WT_mem (List.mem_append_right _ (List.mem_of_getElem? (i := 502) (by decide +kernel))) (by decide +kernel), WT_mem (List.mem_append_right _ (List.mem_of_getElem? (i := 1) (by decide +kernel))) (by decide +kernel), by decide +kernel, by decide⟩, WT_mem (List.mem_append_right _ (List.mem_of_getElem? (i := 501) (by decide +kernel))) (by decide +kernel)⟩
theorem cs_X8_lettersIn : CS mX8_lettersIn 1 := ⟨⟨WT_mem (List.mem_append_right _ (List.mem_of_getElem? (i := 413) (by decide +kernel))) (by decide +kernel), WT_mem (List.mem_append_right _ (List.mem_of_getElem? (i := 1) (by decide +kernel))) (by decide +kernel), by decide +kernel, by decide⟩, WT_mem (List.mem_append_right _ (List.mem_of_getElem? (i := 412) (by decide +kernel))) (by decide +kernel)⟩
theorem cs_X8_codeAt : CS mX8_codeAt 2 := ⟨⟨WT_mem (List.mem_append_right _ (List.mem_of_getElem? (i := 420) (by decide +kernel))) (by decide +kernel), WT_mem (List.mem_append_right _ (List.mem_of_getElem? (i := 1) (by decide +kernel))) (by decide +kernel), by decide +kernel, by decide⟩, WT_mem (List.mem_append_right _ (List.mem_of_getElem? (i := 419) (by decide +kernel))) (by decide +kernel)⟩
theorem cs_X8_isOfKind : CS mX8_isOfKind 2 := ⟨⟨WT_mem (List.mem_append_right _ (List.mem_of_getElem? (i := 473) (by decide +kernel))) (by decide +kernel), WT_mem (List.mem_append_right _ (List.mem_of_getElem? (i := 1) (by decide +kernel))) (by decide +kernel), by decide +kernel, by decide⟩, WT_mem (List.mem_append_right _ (List.mem_of_getElem? (i := 472) (by decide +kernel))) (by decide +kernel)⟩
theorem cs_X8_singleBits : CS mX8_singleBits 1 := ⟨⟨WT_mem (List.mem_append_right _ (List.mem_of_getElem? (i := 434) (by decide +kernel))) (by decide +kernel), WT_mem (List.mem_append_right _ (List.mem_of_getElem? (i := 1) (by decide +kernel))) (by decide +kernel), by decide +kernel, by decide⟩, WT_mem (List.mem_append_right _ (List.mem_of_getElem? (i := 433) (by decide +kernel))) (by decide +kernel)⟩
theorem cs_X8_doubleBits : CS mX8_doubleBits 1 := ⟨⟨WT_mem (List.mem_append_right _ (List.mem_of_getElem? (i := 570) (by decide +kernel))) (by decide +kernel), WT_mem (List.mem_append_right _ (List.mem_of_getElem? (i := 1) (by decide +kernel))) (by decide +kernel), by decide +kernel, by decide⟩, WT_mem (List.mem_append_right _ (List.mem_of_getElem? (i := 569) (by decide +kernel))) (by decide +kernel)⟩
theorem cs_X9_in : CS mX9_in 3 := ⟨⟨WT_mem (List.mem_append_right _ (List.mem_of_getElem? (i := 741) (by decide +kernel))) (by decide +kernel), WT_mem (List.mem_append_right _ (List.mem_of_getElem? (i := 10) (by decide +kernel))) (by decide +kernel), by decide +kernel, by decide⟩, WT_mem (List.mem_append_right _ (List.mem_of_getElem? (i := 740) (by decide +kernel))) (by decide +kernel)⟩
theorem cs_X9_copy : CS mX9_copy 2 := ⟨⟨WT_mem (List.mem_append_right _ (List.mem_of_getElem? (i := 766) (by decide +kernel))) (by decide +kernel), WT_mem (List.mem_append_right _ (List.mem_of_getElem? (i := 10) (by decide +kernel))) (by decide +kernel), by decide +kernel, by decide⟩, WT_mem (List.mem_append_right _ (List.mem_of_getElem? (i := 765) (by decide +kernel))) (by decide +kernel)⟩
theorem cv_X9_letter : CV mX9_letter 1 := ⟨⟨WT_mem (List.mem_append_right _ (List.mem_of_getElem? (i := 737) (by decide +kernel))) (by decide +kernel), WT_mem (List.mem_append_right _ (List.mem_of_getElem? (i := 10) (by decide +kernel))) (by decide +kernel), by decide +kernel, by decide⟩, WT_mem (List.mem_append_right _ (List.mem_of_getElem? (i := 735) (by decide +kernel))) (by decide +kernel), WT_mem (List.mem_append_right _ (List.mem_of_getElem? (i := 736) (by decide +kernel))) (by decide +kernel)⟩
theorem cv_X9_blank : CV mX9_blank 0 := ⟨⟨WT_mem (List.mem_append_right _ (List.mem_of_getElem? (i := 745) (by decide +kernel))) (by decide +kernel), WT_mem (List.mem_append_right _ (List.mem_of_getElem? (i := 10) (by decide +kernel))) (by decide +kernel), by decide +kernel, by decide⟩, WT_mem (List.mem_append_right _ (List.mem_of_getElem? (i := 743) (by decide +kernel))) (by decide +kernel), WT_mem (List.mem_append_right _ (List.mem_of_getElem? (i := 744) (by decide +kernel))) (by decide +kernel)⟩
theorem cv_X9_isGood : CV mX9_isGood 1 := ⟨⟨WT_mem (List.mem_append_right _ (List.mem_of_getElem? (i := 757) (by decide +kernel))) (by decide +kernel), WT_mem (List.mem_append_right _ (List.mem_of_getElem? (i := 10) (by decide +kernel))) (by decide +kernel), by decide +kernel, by decide⟩, WT_mem (List.mem_append_right _ (List.mem_of_getElem? (i := 756) (by decide +kernel))) (by decide +kernel), WT_mem (List.mem_append_left _ (List.mem_of_getElem? (i := 58) (by decide +kernel))) (by decide +kernel)⟩
theorem cv_X9_faultOf : CV mX9_faultOf 0 := ⟨⟨WT_mem (List.mem_append_right _ (List.mem_of_getElem? (i := 753) (by decide +kernel))) (by decide +kernel), WT_mem (List.mem_append_right _ (List.mem_of_getElem? (i := 10) (by decide +kernel))) (by decide +kernel), by decide +kernel, by decide⟩, WT_mem (List.mem_append_right _ (List.mem_of_getElem? (i := 752) (by decide +kernel))) (by decide +kernel), WT_mem (List.mem_append_left _ (List.mem_of_getElem? (i := 57) (by decide +kernel))) (by decide +kernel)⟩
theorem cv_X9_fault : CV mX9_fault 0 := ⟨⟨WT_mem (List.mem_append_right _ (List.mem_of_getElem? (i := 749) (by decide +kernel))) (by decide +kernel), WT_mem (List.mem_append_right _ (List.mem_of_getElem? (i := 10) (by decide +kernel))) (by decide +kernel), by decide +kernel, by decide⟩, WT_mem (List.mem_append_right _ (List.mem_of_getElem? (i := 747) (by decide +kernel))) (by decide +kernel), WT_mem (List.mem_append_right _ (List.mem_of_getElem? (i := 748) (by decide +kernel))) (by decide +kernel)⟩
theorem cv_X9_text : CV mX9_text 0 := ⟨⟨WT_mem (List.mem_append_right _ (List.mem_of_getElem? (i := 763) (by decide +kernel))) (by decide +kernel), WT_mem (List.mem_append_right _ (List.mem_of_getElem? (i := 10) (by decide +kernel))) (by decide +kernel), by decide +kernel, by decide⟩, WT_mem (List.mem_append_right _ (List.mem_of_getElem? (i := 761) (by decide +kernel))) (by decide +kernel), WT_mem (List.mem_append_right _ (List.mem_of_getElem? (i := 762) (by decide +kernel))) (by decide +kernel)⟩
theorem cs_X9_isSide : CS mX9_isSide 1 := ⟨⟨WT_mem (List.mem_append_right _ (List.mem_of_getElem? (i := 880) (by decide +kernel))) (by decide +kernel), WT_mem (List.mem_append_right _ (List.mem_of_getElem? (i := 10) (by decide +kernel))) (by decide +kernel), by decide +kernel, by decide⟩, WT_mem (List.mem_append_right _ (List.mem_of_getElem? (i := 879) (by decide +kernel))) (by decide +kernel)⟩
theorem cv_X9_isLine : CV mX9_isLine 2 := ⟨⟨WT_mem (List.mem_append_right _ (List.mem_of_getElem? (i := 877) (by decide +kernel))) (by decide +kernel), WT_mem (List.mem_append_right _ (List.mem_of_getElem? (i := 10) (by decide +kernel))) (by decide +kernel), by decide +kernel, by decide⟩, WT_mem (List.mem_append_right _ (List.mem_of_getElem? (i := 876) (by decide +kernel))) (by decide +kernel), WT_mem (List.mem_append_left _ (List.mem_of_getElem? (i := 82) (by decide +kernel))) (by decide +kernel)⟩
theorem cv_X9_isSame : CV mX9_isSame 2 := ⟨⟨WT_mem (List.mem_append_right _ (List.mem_of_getElem? (i := 790) (by decide +kernel))) (by decide +kernel), WT_mem (List.mem_append_right _ (List.mem_of_getElem? (i := 10) (by decide +kernel))) (by decide +kernel), by decide +kernel, by decide⟩, WT_mem (List.mem_append_right _ (List.mem_of_getElem? (i := 789) (by decide +kernel))) (by decide +kernel), WT_mem (List.mem_append_left _ (List.mem_of_getElem? (i := 64) (by decide +kernel))) (by decide +kernel)⟩
theorem cv_X9_addPart : CV mX9_addPart 4 := ⟨⟨WT_mem (List.mem_append_right _ (List.mem_of_getElem? (i := 782) (by decide +kernel))) (by decide +kernel), WT_mem (List.mem_append_right _ (List.mem_of_getElem? (i := 10) (by decide +kernel))) (by decide +kernel), by decide +kernel, by decide⟩, WT_mem (List.mem_append_right _ (List.mem_of_getElem? (i := 781) (by decide +kernel))) (by decide +kernel), WT_mem (List.mem_append_left _ (List.mem_of_getElem? (i := 62) (by decide +kernel))) (by decide +kernel)⟩
theorem cv_X9_keep : CV mX9_keep 2 := ⟨⟨WT_mem (List.mem_append_right _ (List.mem_of_getElem? (i := 794) (by decide +kernel))) (by decide +kernel), WT_mem (List.mem_append_right _ (List.mem_of_getElem? (i := 10) (by decide +kernel))) (by decide +kernel), by decide +kernel, by decide⟩, WT_mem (List.mem_append_right _ (List.mem_of_getElem? (i := 793) (by decide +kernel))) (by decide +kernel), WT_mem (List.mem_append_left _ (List.mem_of_getElem? (i := 65) (by decide +kernel))) (by decide +kernel)⟩
theorem cv_X9_timesIn : CV mX9_timesIn 3 := ⟨⟨WT_mem (List.mem_append_right _ (List.mem_of_getElem? (i := 802) (by decide +kernel))) (by decide +kernel), WT_mem (List.mem_append_right _ (List.mem_of_getElem? (i := 10) (by decide +kernel))) (by decide +kernel), by decide +kernel, by decide⟩, WT_mem (List.mem_append_right _ (List.mem_of_getElem? (i := 801) (by decide +kernel))) (by decide +kernel), WT_mem (List.mem_append_left _ (List.mem_of_getElem? (i := 67) (by decide +kernel))) (by decide +kernel)⟩
theorem cv_X9_layAnchors : CV mX9_layAnchors 4 := ⟨⟨WT_mem (List.mem_append_right _ (List.mem_of_getElem? (i := 798) (by decide +kernel))) (by decide +kernel), WT_mem (List.mem_append_right _ (List.mem_of_getElem? (i := 10) (by decide +kernel))) (by decide +kernel), by decide +kernel, by decide⟩, WT_mem (List.mem_append_right _ (List.mem_of_getElem? (i := 797) (by decide +kernel))) (by decide +kernel), WT_mem (List.mem_append_left _ (List.mem_of_getElem? (i := 66) (by decide +kernel))) (by decide +kernel)⟩
theorem cv_X9_matchAnchors : CV mX9_matchAnchors 5 := ⟨⟨WT_mem (List.mem_append_right _ (List.mem_of_getElem? (i := 806) (by decide +kernel))) (by decide +kernel), WT_mem (List.mem_append_right _ (List.mem_of_getElem? (i := 10) (by decide +kernel))) (by decide +kernel), by decide +kernel, by decide⟩, WT_mem (List.mem_append_right _ (List.mem_of_getElem? (i := 805) (by decide +kernel))) (by decide +kernel), WT_mem (List.mem_append_left _ (List.mem_of_getElem? (i := 68) (by decide +kernel))) (by decide +kernel)⟩
theorem cv_X9_layCan : CV mX9_layCan 4 := ⟨⟨WT_mem (List.mem_append_right _ (List.mem_of_getElem? (i := 814) (by decide +kernel))) (by decide +kernel), WT_mem (List.mem_append_right _ (List.mem_of_getElem? (i := 10) (by decide +kernel))) (by decide +kernel), by decide +kernel, by decide⟩, WT_mem (List.mem_append_right _ (List.mem_of_getElem? (i := 813) (by decide +kernel))) (by decide +kernel), WT_mem (List.mem_append_left _ (List.mem_of_getElem? (i := 70) (by decide +kernel))) (by decide +kernel)⟩
theorem cv_X9_matchRows : CV mX9_matchRows 4 := ⟨⟨WT_mem (List.mem_append_right _ (List.mem_of_getElem? (i := 810) (by decide +kernel))) (by decide +kernel), WT_mem (List.mem_append_right _ (List.mem_of_getElem? (i := 10) (by decide +kernel))) (by decide +kernel), by decide +kernel, by decide⟩, WT_mem (List.mem_append_right _ (List.mem_of_getElem? (i := 809) (by decide +kernel))) (by decide +kernel), WT_mem (List.mem_append_left _ (List.mem_of_getElem? (i := 69) (by decide +kernel))) (by decide +kernel)⟩
theorem cv_X9_matchPart : CV mX9_matchPart 4 := ⟨⟨WT_mem (List.mem_append_right _ (List.mem_of_getElem? (i := 786) (by decide +kernel))) (by decide +kernel), WT_mem (List.mem_append_right _ (List.mem_of_getElem? (i := 10) (by decide +kernel))) (by decide +kernel), by decide +kernel, by decide⟩, WT_mem (List.mem_append_right _ (List.mem_of_getElem? (i := 785) (by decide +kernel))) (by decide +kernel), WT_mem (List.mem_append_left _ (List.mem_of_getElem? (i := 63) (by decide +kernel))) (by decide +kernel)⟩
theorem cv_X9_matchAll : CV mX9_matchAll 0 := ⟨⟨WT_mem (List.mem_append_right _ (List.mem_of_getElem? (i := 778) (by decide +kernel))) (by decide +kernel), WT_mem (List.mem_append_right _ (List.mem_of_getElem? (i := 10) (by decide +kernel))) (by decide +kernel), by decide +kernel, by decide⟩, WT_mem (List.mem_append_right _ (List.mem_of_getElem? (i := 777) (by decide +kernel))) (by decide +kernel), WT_mem (List.mem_append_left _ (List.mem_of_getElem? (i := 61) (by decide +kernel))) (by decide +kernel)⟩
theorem cv_X9_countGap : CV mX9_countGap 2 := ⟨⟨WT_mem (List.mem_append_right _ (List.mem_of_getElem? (i := 838) (by decide +kernel))) (by decide +kernel), WT_mem (List.mem_append_right _ (List.mem_of_getElem? (i := 10) (by decide +kernel))) (by decide +kernel), by decide +kernel, by decide⟩, WT_mem (List.mem_append_right _ (List.mem_of_getElem? (i := 837) (by decide +kernel))) (by decide +kernel), WT_mem (List.mem_append_left _ (List.mem_of_getElem? (i := 76) (by decide +kernel))) (by decide +kernel)⟩
theorem cv_X9_countBack : CV mX9_countBack 2 := ⟨⟨WT_mem (List.mem_append_right _ (List.mem_of_getElem? (i := 822) (by decide +kernel))) (by decide +kernel), WT_mem (List.mem_append_right _ (List.mem_of_getElem? (i := 10) (by decide +kernel))) (by decide +kernel), by decide +kernel, by decide⟩, WT_mem (List.mem_append_right _ (List.mem_of_getElem? (i := 821) (by decide +kernel))) (by decide +kernel), WT_mem (List.mem_append_left _ (List.mem_of_getElem? (i := 72) (by decide +kernel))) (by decide +kernel)⟩
theorem cv_X9_isSliding : CV mX9_isSliding 3 := ⟨⟨WT_mem (List.mem_append_right _ (List.mem_of_getElem? (i := 830) (by decide +kernel))) (by decide +kernel), WT_mem (List.mem_append_right _ (List.mem_of_getElem? (i := 10) (by decide +kernel))) (by decide +kernel), by decide +kernel, by decide⟩, WT_mem (List.mem_append_right _ (List.mem_of_getElem? (i := 829) (by decide +kernel))) (by decide +kernel), WT_mem (List.mem_append_left _ (List.mem_of_getElem? (i := 74) (by decide +kernel))) (by decide +kernel)⟩
theorem cv_X9_slide : CV mX9_slide 3 := ⟨⟨WT_mem (List.mem_append_right _ (List.mem_of_getElem? (i := 834) (by decide +kernel))) (by decide +kernel), WT_mem (List.mem_append_right _ (List.mem_of_getElem? (i := 10) (by decide +kernel))) (by decide +kernel), by decide +kernel, by decide⟩, WT_mem (List.mem_append_right _ (List.mem_of_getElem? (i := 833) (by decide +kernel))) (by decide +kernel), WT_mem (List.mem_append_left _ (List.mem_of_getElem? (i := 75) (by decide +kernel))) (by decide +kernel)⟩
theorem cv_X9_slideGap : CV mX9_slideGap 4 := ⟨⟨WT_mem (List.mem_append_right _ (List.mem_of_getElem? (i := 826) (by decide +kernel))) (by decide +kernel), WT_mem (List.mem_append_right _ (List.mem_of_getElem? (i := 10) (by decide +kernel))) (by decide +kernel), by decide +kernel, by decide⟩, WT_mem (List.mem_append_right _ (List.mem_of_getElem? (i := 825) (by decide +kernel))) (by decide +kernel), WT_mem (List.mem_append_left _ (List.mem_of_getElem? (i := 73) (by decide +kernel))) (by decide +kernel)⟩
theorem cv_X9_slideAll : CV mX9_slideAll 0 := ⟨⟨WT_mem (List.mem_append_right _ (List.mem_of_getElem? (i := 818) (by decide +kernel))) (by decide +kernel), WT_mem (List.mem_append_right _ (List.mem_of_getElem? (i := 10) (by decide +kernel))) (by decide +kernel), by decide +kernel, by decide⟩, WT_mem (List.mem_append_right _ (List.mem_of_getElem? (i := 817) (by decide +kernel))) (by decide +kernel), WT_mem (List.mem_append_left _ (List.mem_of_getElem? (i := 71) (by decide +kernel))) (by decide +kernel)⟩
theorem cs_X9_bitsOf : CS mX9_bitsOf 4 := ⟨⟨WT_mem (List.mem_append_right _ (List.mem_of_getElem? (i := 868) (by decide +kernel))) (by decide +kernel), WT_mem (List.mem_append_right _ (List.mem_of_getElem? (i := 10) (by decide +kernel))) (by decide +kernel), by decide +kernel, by decide⟩, WT_mem (List.mem_append_right _ (List.mem_of_getElem? (i := 867) (by decide +kernel))) (by decide +kernel)⟩
theorem cs_X9_lettersOf : CS mX9_lettersOf 1 := ⟨⟨WT_mem (List.mem_append_right _ (List.mem_of_getElem? (i := 853) (by decide +kernel))) (by decide +kernel), WT_mem (List.mem_append_right _ (List.mem_of_getElem? (i := 10) (by decide +kernel))) (by decide +kernel), by decide +kernel, by decide⟩, WT_mem (List.mem_append_right _ (List.mem_of_getElem? (i := 852) (by decide +kernel))) (by decide +kernel)⟩
theorem cs_X9_letterOf : CS mX9_letterOf 2 := ⟨⟨WT_mem (List.mem_append_right _ (List.mem_of_getElem? (i := 856) (by decide +kernel))) (by decide +kernel), WT_mem (List.mem_append_right _ (List.mem_of_getElem? (i := 10) (by decide +kernel))) (by decide +kernel), by decide +kernel, by decide⟩, WT_mem (List.mem_append_right _ (List.mem_of_getElem? (i := 855) (by decide +kernel))) (by decide +kernel)⟩
theorem cv_X9_alike : CV mX9_alike 2 := ⟨⟨WT_mem (List.mem_append_right _ (List.mem_of_getElem? (i := 850) (by decide +kernel))) (by decide +kernel), WT_mem (List.mem_append_right _ (List.mem_of_getElem? (i := 10) (by decide +kernel))) (by decide +kernel), by decide +kernel, by decide⟩, WT_mem (List.mem_append_right _ (List.mem_of_getElem? (i := 849) (by decide +kernel))) (by decide +kernel), WT_mem (List.mem_append_left _ (List.mem_of_getElem? (i := 79) (by decide +kernel))) (by decide +kernel)⟩
theorem cv_X9_likeBits : CV mX9_likeBits 2 := ⟨⟨WT_mem (List.mem_append_right _ (List.mem_of_getElem? (i := 864) (by decide +kernel))) (by decide +kernel), WT_mem (List.mem_append_right _ (List.mem_of_getElem? (i := 10) (by decide +kernel))) (by decide +kernel), by decide +kernel, by decide⟩, WT_mem (List.mem_append_right _ (List.mem_of_getElem? (i := 863) (by decide +kernel))) (by decide +kernel), WT_mem (List.mem_append_left _ (List.mem_of_getElem? (i := 81) (by decide +kernel))) (by decide +kernel)⟩
theorem cv_X9_like : CV mX9_like 2 := ⟨⟨WT_mem (List.mem_append_right _ (List.mem_of_getElem? (i := 873) (by decide +kernel))) (by decide +kernel), WT_mem (List.mem_append_right _ (List.mem_of_getElem? (i := 10) (by decide +kernel))) (by decide +kernel), by decide +kernel, by decide⟩, WT_mem (List.mem_append_right _ (List.mem_of_getElem? (i := 871) (by decide +kernel))) (by decide +kernel), WT_mem (List.mem_append_right _ (List.mem_of_getElem? (i := 872) (by decide +kernel))) (by decide +kernel)⟩
theorem cv_X9_addStep : CV mX9_addStep 5 := ⟨⟨WT_mem (List.mem_append_right _ (List.mem_of_getElem? (i := 860) (by decide +kernel))) (by decide +kernel), WT_mem (List.mem_append_right _ (List.mem_of_getElem? (i := 10) (by decide +kernel))) (by decide +kernel), by decide +kernel, by decide⟩, WT_mem (List.mem_append_right _ (List.mem_of_getElem? (i := 859) (by decide +kernel))) (by decide +kernel), WT_mem (List.mem_append_left _ (List.mem_of_getElem? (i := 80) (by decide +kernel))) (by decide +kernel)⟩
theorem cv_X9_changeBy : CV mX9_changeBy 2 := ⟨⟨WT_mem (List.mem_append_right _ (List.mem_of_getElem? (i := 846) (by decide +kernel))) (by decide +kernel), WT_mem (List.mem_append_right _ (List.mem_of_getElem? (i := 10) (by decide +kernel))) (by decide +kernel), by decide +kernel, by decide⟩, WT_mem (List.mem_append_right _ (List.mem_of_getElem? (i := 845) (by decide +kernel))) (by decide +kernel), WT_mem (List.mem_append_left _ (List.mem_of_getElem? (i := 78) (by decide +kernel))) (by decide +kernel)⟩
theorem cv_X9_layGap : CV mX9_layGap 4 := ⟨⟨WT_mem (List.mem_append_right _ (List.mem_of_getElem? (i := 842) (by decide +kernel))) (by decide +kernel), WT_mem (List.mem_append_right _ (List.mem_of_getElem? (i := 10) (by decide +kernel))) (by decide +kernel), by decide +kernel, by decide⟩, WT_mem (List.mem_append_right _ (List.mem_of_getElem? (i := 841) (by decide +kernel))) (by decide +kernel), WT_mem (List.mem_append_left _ (List.mem_of_getElem? (i := 77) (by decide +kernel))) (by decide +kernel)⟩
theorem cv_X9_layScript : CV mX9_layScript 0 := ⟨⟨WT_mem (List.mem_append_right _ (List.mem_of_getElem? (i := 770) (by decide +kernel))) (by decide +kernel), WT_mem (List.mem_append_right _ (List.mem_of_getElem? (i := 10) (by decide +kernel))) (by decide +kernel), by decide +kernel, by decide⟩, WT_mem (List.mem_append_right _ (List.mem_of_getElem? (i := 769) (by decide +kernel))) (by decide +kernel), WT_mem (List.mem_append_left _ (List.mem_of_getElem? (i := 59) (by decide +kernel))) (by decide +kernel)⟩
theorem cv_X9_layKept : CV mX9_layKept 0 := ⟨⟨WT_mem (List.mem_append_right _ (List.mem_of_getElem? (i := 774) (by decide +kernel))) (by decide +kernel), WT_mem (List.mem_append_right _ (List.mem_of_getElem? (i := 10) (by decide +kernel))) (by decide +kernel), by decide +kernel, by decide⟩, WT_mem (List.mem_append_right _ (List.mem_of_getElem? (i := 773) (by decide +kernel))) (by decide +kernel), WT_mem (List.mem_append_left _ (List.mem_of_getElem? (i := 60) (by decide +kernel))) (by decide +kernel)⟩
theorem cv_X9_isStep : CV mX9_isStep 1 := ⟨⟨WT_mem (List.mem_append_right _ (List.mem_of_getElem? (i := 888) (by decide +kernel))) (by decide +kernel), WT_mem (List.mem_append_right _ (List.mem_of_getElem? (i := 10) (by decide +kernel))) (by decide +kernel), by decide +kernel, by decide⟩, WT_mem (List.mem_append_right _ (List.mem_of_getElem? (i := 887) (by decide +kernel))) (by decide +kernel), WT_mem (List.mem_append_left _ (List.mem_of_getElem? (i := 83) (by decide +kernel))) (by decide +kernel)⟩
theorem cv_X9_step : CV mX9_step 2 := ⟨⟨WT_mem (List.mem_append_right _ (List.mem_of_getElem? (i := 884) (by decide +kernel))) (by decide +kernel), WT_mem (List.mem_append_right _ (List.mem_of_getElem? (i := 10) (by decide +kernel))) (by decide +kernel), by decide +kernel, by decide⟩, WT_mem (List.mem_append_right _ (List.mem_of_getElem? (i := 882) (by decide +kernel))) (by decide +kernel), WT_mem (List.mem_append_right _ (List.mem_of_getElem? (i := 883) (by decide +kernel))) (by decide +kernel)⟩
theorem cv_X9_lettersBy : CV mX9_lettersBy 2 := ⟨⟨WT_mem (List.mem_append_right _ (List.mem_of_getElem? (i := 897) (by decide +kernel))) (by decide +kernel), WT_mem (List.mem_append_right _ (List.mem_of_getElem? (i := 10) (by decide +kernel))) (by decide +kernel), by decide +kernel, by decide⟩, WT_mem (List.mem_append_right _ (List.mem_of_getElem? (i := 896) (by decide +kernel))) (by decide +kernel), WT_mem (List.mem_append_left _ (List.mem_of_getElem? (i := 84) (by decide +kernel))) (by decide +kernel)⟩
theorem cv_X9_letters : CV mX9_letters 2 := ⟨⟨WT_mem (List.mem_append_right _ (List.mem_of_getElem? (i := 893) (by decide +kernel))) (by decide +kernel), WT_mem (List.mem_append_right _ (List.mem_of_getElem? (i := 10) (by decide +kernel))) (by decide +kernel), by decide +kernel, by decide⟩, WT_mem (List.mem_append_right _ (List.mem_of_getElem? (i := 891) (by decide +kernel))) (by decide +kernel), WT_mem (List.mem_append_right _ (List.mem_of_getElem? (i := 892) (by decide +kernel))) (by decide +kernel)⟩
theorem cv_X9_tellLine : CV mX9_tellLine 3 := ⟨⟨WT_mem (List.mem_append_right _ (List.mem_of_getElem? (i := 905) (by decide +kernel))) (by decide +kernel), WT_mem (List.mem_append_right _ (List.mem_of_getElem? (i := 10) (by decide +kernel))) (by decide +kernel), by decide +kernel, by decide⟩, WT_mem (List.mem_append_right _ (List.mem_of_getElem? (i := 904) (by decide +kernel))) (by decide +kernel), WT_mem (List.mem_append_left _ (List.mem_of_getElem? (i := 85) (by decide +kernel))) (by decide +kernel)⟩
theorem cv_X9_line : CV mX9_line 3 := ⟨⟨WT_mem (List.mem_append_right _ (List.mem_of_getElem? (i := 901) (by decide +kernel))) (by decide +kernel), WT_mem (List.mem_append_right _ (List.mem_of_getElem? (i := 10) (by decide +kernel))) (by decide +kernel), by decide +kernel, by decide⟩, WT_mem (List.mem_append_right _ (List.mem_of_getElem? (i := 899) (by decide +kernel))) (by decide +kernel), WT_mem (List.mem_append_right _ (List.mem_of_getElem? (i := 900) (by decide +kernel))) (by decide +kernel)⟩
theorem cv_X9_rackedOf : CV mX9_rackedOf 1 := ⟨⟨WT_mem (List.mem_append_right _ (List.mem_of_getElem? (i := 913) (by decide +kernel))) (by decide +kernel), WT_mem (List.mem_append_right _ (List.mem_of_getElem? (i := 10) (by decide +kernel))) (by decide +kernel), by decide +kernel, by decide⟩, WT_mem (List.mem_append_right _ (List.mem_of_getElem? (i := 912) (by decide +kernel))) (by decide +kernel), WT_mem (List.mem_append_left _ (List.mem_of_getElem? (i := 86) (by decide +kernel))) (by decide +kernel)⟩
theorem cs_X9_isOf : CS mX9_isOf 2 := ⟨⟨WT_mem (List.mem_append_right _ (List.mem_of_getElem? (i := 916) (by decide +kernel))) (by decide +kernel), WT_mem (List.mem_append_right _ (List.mem_of_getElem? (i := 10) (by decide +kernel))) (by decide +kernel), by decide +kernel, by decide⟩, WT_mem (List.mem_append_right _ (List.mem_of_getElem? (i := 915) (by decide +kernel))) (by decide +kernel)⟩
theorem cv_X9_rack : CV mX9_rack 2 := ⟨⟨WT_mem (List.mem_append_right _ (List.mem_of_getElem? (i := 909) (by decide +kernel))) (by decide +kernel), WT_mem (List.mem_append_right _ (List.mem_of_getElem? (i := 10) (by decide +kernel))) (by decide +kernel), by decide +kernel, by decide⟩, WT_mem (List.mem_append_right _ (List.mem_of_getElem? (i := 907) (by decide +kernel))) (by decide +kernel), WT_mem (List.mem_append_right _ (List.mem_of_getElem? (i := 908) (by decide +kernel))) (by decide +kernel)⟩
theorem cv_X9_racked : CV mX9_racked 2 := ⟨⟨WT_mem (List.mem_append_right _ (List.mem_of_getElem? (i := 920) (by decide +kernel))) (by decide +kernel), WT_mem (List.mem_append_right _ (List.mem_of_getElem? (i := 10) (by decide +kernel))) (by decide +kernel), by decide +kernel, by decide⟩, WT_mem (List.mem_append_right _ (List.mem_of_getElem? (i := 918) (by decide +kernel))) (by decide +kernel), WT_mem (List.mem_append_right _ (List.mem_of_getElem? (i := 919) (by decide +kernel))) (by decide +kernel)⟩
theorem cs_X9_isLetters : CS mX9_isLetters 1 := ⟨⟨WT_mem (List.mem_append_right _ (List.mem_of_getElem? (i := 927) (by decide +kernel))) (by decide +kernel), WT_mem (List.mem_append_right _ (List.mem_of_getElem? (i := 10) (by decide +kernel))) (by decide +kernel), by decide +kernel, by decide⟩, WT_mem (List.mem_append_right _ (List.mem_of_getElem? (i := 926) (by decide +kernel))) (by decide +kernel)⟩
theorem cv_X9_insert : CV mX9_insert 3 := ⟨⟨WT_mem (List.mem_append_right _ (List.mem_of_getElem? (i := 932) (by decide +kernel))) (by decide +kernel), WT_mem (List.mem_append_right _ (List.mem_of_getElem? (i := 10) (by decide +kernel))) (by decide +kernel), by decide +kernel, by decide⟩, WT_mem (List.mem_append_right _ (List.mem_of_getElem? (i := 931) (by decide +kernel))) (by decide +kernel), WT_mem (List.mem_append_left _ (List.mem_of_getElem? (i := 87) (by decide +kernel))) (by decide +kernel)⟩
theorem cv_X9_remove : CV mX9_remove 2 := ⟨⟨WT_mem (List.mem_append_right _ (List.mem_of_getElem? (i := 940) (by decide +kernel))) (by decide +kernel), WT_mem (List.mem_append_right _ (List.mem_of_getElem? (i := 10) (by decide +kernel))) (by decide +kernel), by decide +kernel, by decide⟩, WT_mem (List.mem_append_right _ (List.mem_of_getElem? (i := 939) (by decide +kernel))) (by decide +kernel), WT_mem (List.mem_append_left _ (List.mem_of_getElem? (i := 88) (by decide +kernel))) (by decide +kernel)⟩
theorem cv_X9_put : CV mX9_put 3 := ⟨⟨WT_mem (List.mem_append_right _ (List.mem_of_getElem? (i := 924) (by decide +kernel))) (by decide +kernel), WT_mem (List.mem_append_right _ (List.mem_of_getElem? (i := 10) (by decide +kernel))) (by decide +kernel), by decide +kernel, by decide⟩, WT_mem (List.mem_append_right _ (List.mem_of_getElem? (i := 922) (by decide +kernel))) (by decide +kernel), WT_mem (List.mem_append_right _ (List.mem_of_getElem? (i := 923) (by decide +kernel))) (by decide +kernel)⟩
theorem cv_X9_take : CV mX9_take 2 := ⟨⟨WT_mem (List.mem_append_right _ (List.mem_of_getElem? (i := 936) (by decide +kernel))) (by decide +kernel), WT_mem (List.mem_append_right _ (List.mem_of_getElem? (i := 10) (by decide +kernel))) (by decide +kernel), by decide +kernel, by decide⟩, WT_mem (List.mem_append_right _ (List.mem_of_getElem? (i := 934) (by decide +kernel))) (by decide +kernel), WT_mem (List.mem_append_right _ (List.mem_of_getElem? (i := 935) (by decide +kernel))) (by decide +kernel)⟩
theorem cv_X9_swap : CV mX9_swap 3 := ⟨⟨WT_mem (List.mem_append_right _ (List.mem_of_getElem? (i := 944) (by decide +kernel))) (by decide +kernel), WT_mem (List.mem_append_right _ (List.mem_of_getElem? (i := 10) (by decide +kernel))) (by decide +kernel), by decide +kernel, by decide⟩, WT_mem (List.mem_append_right _ (List.mem_of_getElem? (i := 942) (by decide +kernel))) (by decide +kernel), WT_mem (List.mem_append_right _ (List.mem_of_getElem? (i := 943) (by decide +kernel))) (by decide +kernel)⟩
theorem cv_X9_turn : CV mX9_turn 0 := ⟨⟨WT_mem (List.mem_append_right _ (List.mem_of_getElem? (i := 948) (by decide +kernel))) (by decide +kernel), WT_mem (List.mem_append_right _ (List.mem_of_getElem? (i := 10) (by decide +kernel))) (by decide +kernel), by decide +kernel, by decide⟩, WT_mem (List.mem_append_right _ (List.mem_of_getElem? (i := 946) (by decide +kernel))) (by decide +kernel), WT_mem (List.mem_append_right _ (List.mem_of_getElem? (i := 947) (by decide +kernel))) (by decide +kernel)⟩
theorem cv_X9_keptMany : CV mX9_keptMany 0 := ⟨⟨WT_mem (List.mem_append_right _ (List.mem_of_getElem? (i := 964) (by decide +kernel))) (by decide +kernel), WT_mem (List.mem_append_right _ (List.mem_of_getElem? (i := 10) (by decide +kernel))) (by decide +kernel), by decide +kernel, by decide⟩, WT_mem (List.mem_append_right _ (List.mem_of_getElem? (i := 963) (by decide +kernel))) (by decide +kernel), WT_mem (List.mem_append_left _ (List.mem_of_getElem? (i := 91) (by decide +kernel))) (by decide +kernel)⟩
theorem cv_X9_costNow : CV mX9_costNow 0 := ⟨⟨WT_mem (List.mem_append_right _ (List.mem_of_getElem? (i := 960) (by decide +kernel))) (by decide +kernel), WT_mem (List.mem_append_right _ (List.mem_of_getElem? (i := 10) (by decide +kernel))) (by decide +kernel), by decide +kernel, by decide⟩, WT_mem (List.mem_append_right _ (List.mem_of_getElem? (i := 959) (by decide +kernel))) (by decide +kernel), WT_mem (List.mem_append_left _ (List.mem_of_getElem? (i := 90) (by decide +kernel))) (by decide +kernel)⟩
theorem cv_X9_costOf : CV mX9_costOf 1 := ⟨⟨WT_mem (List.mem_append_right _ (List.mem_of_getElem? (i := 956) (by decide +kernel))) (by decide +kernel), WT_mem (List.mem_append_right _ (List.mem_of_getElem? (i := 10) (by decide +kernel))) (by decide +kernel), by decide +kernel, by decide⟩, WT_mem (List.mem_append_right _ (List.mem_of_getElem? (i := 955) (by decide +kernel))) (by decide +kernel), WT_mem (List.mem_append_left _ (List.mem_of_getElem? (i := 89) (by decide +kernel))) (by decide +kernel)⟩
theorem cv_X9_cost : CV mX9_cost 1 := ⟨⟨WT_mem (List.mem_append_right _ (List.mem_of_getElem? (i := 952) (by decide +kernel))) (by decide +kernel), WT_mem (List.mem_append_right _ (List.mem_of_getElem? (i := 10) (by decide +kernel))) (by decide +kernel), by decide +kernel, by decide⟩, WT_mem (List.mem_append_right _ (List.mem_of_getElem? (i := 950) (by decide +kernel))) (by decide +kernel), WT_mem (List.mem_append_right _ (List.mem_of_getElem? (i := 951) (by decide +kernel))) (by decide +kernel)⟩
theorem cv_X9_bestOf : CV mX9_bestOf 1 := ⟨⟨WT_mem (List.mem_append_right _ (List.mem_of_getElem? (i := 972) (by decide +kernel))) (by decide +kernel), WT_mem (List.mem_append_right _ (List.mem_of_getElem? (i := 10) (by decide +kernel))) (by decide +kernel), by decide +kernel, by decide⟩, WT_mem (List.mem_append_right _ (List.mem_of_getElem? (i := 971) (by decide +kernel))) (by decide +kernel), WT_mem (List.mem_append_left _ (List.mem_of_getElem? (i := 92) (by decide +kernel))) (by decide +kernel)⟩
theorem cv_X9_best : CV mX9_best 1 := ⟨⟨WT_mem (List.mem_append_right _ (List.mem_of_getElem? (i := 968) (by decide +kernel))) (by decide +kernel), WT_mem (List.mem_append_right _ (List.mem_of_getElem? (i := 10) (by decide +kernel))) (by decide +kernel), by decide +kernel, by decide⟩, WT_mem (List.mem_append_right _ (List.mem_of_getElem? (i := 966) (by decide +kernel))) (by decide +kernel), WT_mem (List.mem_append_right _ (List.mem_of_getElem? (i := 967) (by decide +kernel))) (by decide +kernel)⟩
theorem cv_X9_allOf : CV mX9_allOf 0 := ⟨⟨WT_mem (List.mem_append_right _ (List.mem_of_getElem? (i := 980) (by decide +kernel))) (by decide +kernel), WT_mem (List.mem_append_right _ (List.mem_of_getElem? (i := 10) (by decide +kernel))) (by decide +kernel), by decide +kernel, by decide⟩, WT_mem (List.mem_append_right _ (List.mem_of_getElem? (i := 979) (by decide +kernel))) (by decide +kernel), WT_mem (List.mem_append_left _ (List.mem_of_getElem? (i := 93) (by decide +kernel))) (by decide +kernel)⟩
theorem cv_X9_all : CV mX9_all 0 := ⟨⟨WT_mem (List.mem_append_right _ (List.mem_of_getElem? (i := 976) (by decide +kernel))) (by decide +kernel), WT_mem (List.mem_append_right _ (List.mem_of_getElem? (i := 10) (by decide +kernel))) (by decide +kernel), by decide +kernel, by decide⟩, WT_mem (List.mem_append_right _ (List.mem_of_getElem? (i := 974) (by decide +kernel))) (by decide +kernel), WT_mem (List.mem_append_right _ (List.mem_of_getElem? (i := 975) (by decide +kernel))) (by decide +kernel)⟩
theorem cv_X9_draw : CV mX9_draw 1 := ⟨⟨WT_mem (List.mem_append_right _ (List.mem_of_getElem? (i := 990) (by decide +kernel))) (by decide +kernel), WT_mem (List.mem_append_right _ (List.mem_of_getElem? (i := 10) (by decide +kernel))) (by decide +kernel), by decide +kernel, by decide⟩, WT_mem (List.mem_append_right _ (List.mem_of_getElem? (i := 989) (by decide +kernel))) (by decide +kernel), WT_mem (List.mem_append_left _ (List.mem_of_getElem? (i := 94) (by decide +kernel))) (by decide +kernel)⟩
theorem cv_X9_drawn : CV mX9_drawn 3 := ⟨⟨WT_mem (List.mem_append_right _ (List.mem_of_getElem? (i := 985) (by decide +kernel))) (by decide +kernel), WT_mem (List.mem_append_right _ (List.mem_of_getElem? (i := 10) (by decide +kernel))) (by decide +kernel), by decide +kernel, by decide⟩, WT_mem (List.mem_append_right _ (List.mem_of_getElem? (i := 983) (by decide +kernel))) (by decide +kernel), WT_mem (List.mem_append_right _ (List.mem_of_getElem? (i := 984) (by decide +kernel))) (by decide +kernel)⟩
theorem cv_X9_image : CV mX9_image 0 := ⟨⟨WT_mem (List.mem_append_right _ (List.mem_of_getElem? (i := 998) (by decide +kernel))) (by decide +kernel), WT_mem (List.mem_append_right _ (List.mem_of_getElem? (i := 10) (by decide +kernel))) (by decide +kernel), by decide +kernel, by decide⟩, WT_mem (List.mem_append_right _ (List.mem_of_getElem? (i := 996) (by decide +kernel))) (by decide +kernel), WT_mem (List.mem_append_right _ (List.mem_of_getElem? (i := 997) (by decide +kernel))) (by decide +kernel)⟩
theorem cv_X9_restore : CV mX9_restore 0 := ⟨⟨WT_mem (List.mem_append_right _ (List.mem_of_getElem? (i := 1002) (by decide +kernel))) (by decide +kernel), WT_mem (List.mem_append_right _ (List.mem_of_getElem? (i := 10) (by decide +kernel))) (by decide +kernel), by decide +kernel, by decide⟩, WT_mem (List.mem_append_right _ (List.mem_of_getElem? (i := 1000) (by decide +kernel))) (by decide +kernel), WT_mem (List.mem_append_right _ (List.mem_of_getElem? (i := 1001) (by decide +kernel))) (by decide +kernel)⟩
theorem cv_X9_stepsOf : CV mX9_stepsOf 1 := ⟨⟨WT_mem (List.mem_append_right _ (List.mem_of_getElem? (i := 1014) (by decide +kernel))) (by decide +kernel), WT_mem (List.mem_append_right _ (List.mem_of_getElem? (i := 10) (by decide +kernel))) (by decide +kernel), by decide +kernel, by decide⟩, WT_mem (List.mem_append_right _ (List.mem_of_getElem? (i := 1013) (by decide +kernel))) (by decide +kernel), WT_mem (List.mem_append_left _ (List.mem_of_getElem? (i := 96) (by decide +kernel))) (by decide +kernel)⟩
theorem cv_X9_rackedAll : CV mX9_rackedAll 0 := ⟨⟨WT_mem (List.mem_append_right _ (List.mem_of_getElem? (i := 1018) (by decide +kernel))) (by decide +kernel), WT_mem (List.mem_append_right _ (List.mem_of_getElem? (i := 10) (by decide +kernel))) (by decide +kernel), by decide +kernel, by decide⟩, WT_mem (List.mem_append_right _ (List.mem_of_getElem? (i := 1017) (by decide +kernel))) (by decide +kernel), WT_mem (List.mem_append_left _ (List.mem_of_getElem? (i := 97) (by decide +kernel))) (by decide +kernel)⟩
theorem cv_X9_countOf : CV mX9_countOf 1 := ⟨⟨WT_mem (List.mem_append_right _ (List.mem_of_getElem? (i := 1010) (by decide +kernel))) (by decide +kernel), WT_mem (List.mem_append_right _ (List.mem_of_getElem? (i := 10) (by decide +kernel))) (by decide +kernel), by decide +kernel, by decide⟩, WT_mem (List.mem_append_right _ (List.mem_of_getElem? (i := 1009) (by decide +kernel))) (by decide +kernel), WT_mem (List.mem_append_left _ (List.mem_of_getElem? (i := 95) (by decide +kernel))) (by decide +kernel)⟩
theorem cv_X9_count : CV mX9_count 1 := ⟨⟨WT_mem (List.mem_append_right _ (List.mem_of_getElem? (i := 1006) (by decide +kernel))) (by decide +kernel), WT_mem (List.mem_append_right _ (List.mem_of_getElem? (i := 10) (by decide +kernel))) (by decide +kernel), by decide +kernel, by decide⟩, WT_mem (List.mem_append_right _ (List.mem_of_getElem? (i := 1004) (by decide +kernel))) (by decide +kernel), WT_mem (List.mem_append_right _ (List.mem_of_getElem? (i := 1005) (by decide +kernel))) (by decide +kernel)⟩
theorem cv_X9_say : CV mX9_say 1 := ⟨⟨WT_mem (List.mem_append_right _ (List.mem_of_getElem? (i := 1027) (by decide +kernel))) (by decide +kernel), WT_mem (List.mem_append_right _ (List.mem_of_getElem? (i := 10) (by decide +kernel))) (by decide +kernel), by decide +kernel, by decide⟩, WT_mem (List.mem_append_right _ (List.mem_of_getElem? (i := 1026) (by decide +kernel))) (by decide +kernel), WT_mem (List.mem_append_left _ (List.mem_of_getElem? (i := 98) (by decide +kernel))) (by decide +kernel)⟩
theorem cv_X9_sayText : CV mX9_sayText 0 := ⟨⟨WT_mem (List.mem_append_right _ (List.mem_of_getElem? (i := 1032) (by decide +kernel))) (by decide +kernel), WT_mem (List.mem_append_right _ (List.mem_of_getElem? (i := 10) (by decide +kernel))) (by decide +kernel), by decide +kernel, by decide⟩, WT_mem (List.mem_append_right _ (List.mem_of_getElem? (i := 1031) (by decide +kernel))) (by decide +kernel), WT_mem (List.mem_append_left _ (List.mem_of_getElem? (i := 99) (by decide +kernel))) (by decide +kernel)⟩
theorem cv_X9_digest : CV mX9_digest 0 := ⟨⟨WT_mem (List.mem_append_right _ (List.mem_of_getElem? (i := 1022) (by decide +kernel))) (by decide +kernel), WT_mem (List.mem_append_right _ (List.mem_of_getElem? (i := 10) (by decide +kernel))) (by decide +kernel), by decide +kernel, by decide⟩, WT_mem (List.mem_append_right _ (List.mem_of_getElem? (i := 1020) (by decide +kernel))) (by decide +kernel), WT_mem (List.mem_append_right _ (List.mem_of_getElem? (i := 1021) (by decide +kernel))) (by decide +kernel)⟩
theorem kc_X6_87 : Cond.constantFloat RX6 87 1056964608 ∈ WT := WT_mem (List.mem_append_right _ (List.mem_of_getElem? (i := 423) (by decide +kernel))) (by decide +kernel)
theorem kc_X8_272 : Cond.constantFloat RX8 272 1258291200 ∈ WT := WT_mem (List.mem_append_right _ (List.mem_of_getElem? (i := 435) (by decide +kernel))) (by decide +kernel)
theorem kc_X8_273 : Cond.constant RX8 273 (Int32.ofInt (8388607)) ∈ WT := WT_mem (List.mem_append_right _ (List.mem_of_getElem? (i := 436) (by decide +kernel))) (by decide +kernel)
theorem kc_X6_88 : Cond.constantFloat RX6 88 1061158912 ∈ WT := WT_mem (List.mem_append_right _ (List.mem_of_getElem? (i := 441) (by decide +kernel))) (by decide +kernel)
theorem kc_X8_194 : Cond.constantLong RX8 194 (Int64.ofInt (-103)) ∈ WT := WT_mem (List.mem_append_right _ (List.mem_of_getElem? (i := 566) (by decide +kernel))) (by decide +kernel)
theorem kc_X8_274 : Cond.constantLong RX8 274 (Int64.ofInt (1075)) ∈ WT := WT_mem (List.mem_append_right _ (List.mem_of_getElem? (i := 571) (by decide +kernel))) (by decide +kernel)
theorem kc_X8_276 : Cond.constantDouble RX8 276 4841369599423283200 ∈ WT := WT_mem (List.mem_append_right _ (List.mem_of_getElem? (i := 572) (by decide +kernel))) (by decide +kernel)
theorem kc_X8_278 : Cond.constantDouble RX8 278 4611686018427387904 ∈ WT := WT_mem (List.mem_append_right _ (List.mem_of_getElem? (i := 573) (by decide +kernel))) (by decide +kernel)
theorem kc_X8_280 : Cond.constantLong RX8 280 (Int64.ofInt (4503599627370495)) ∈ WT := WT_mem (List.mem_append_right _ (List.mem_of_getElem? (i := 574) (by decide +kernel))) (by decide +kernel)
theorem kc_X8_259 : Cond.constantLong RX8 259 (Int64.ofInt (1103515245)) ∈ WT := WT_mem (List.mem_append_right _ (List.mem_of_getElem? (i := 584) (by decide +kernel))) (by decide +kernel)
theorem kc_X8_261 : Cond.constantLong RX8 261 (Int64.ofInt (12345)) ∈ WT := WT_mem (List.mem_append_right _ (List.mem_of_getElem? (i := 585) (by decide +kernel))) (by decide +kernel)
theorem kc_X8_263 : Cond.constantLong RX8 263 (Int64.ofInt (2147483648)) ∈ WT := WT_mem (List.mem_append_right _ (List.mem_of_getElem? (i := 586) (by decide +kernel))) (by decide +kernel)
theorem kc_X8_265 : Cond.constant RX8 265 (Int32.ofInt (65536)) ∈ WT := WT_mem (List.mem_append_right _ (List.mem_of_getElem? (i := 587) (by decide +kernel))) (by decide +kernel)
theorem kc_X8_214 : Cond.constantLong RX8 214 (Int64.ofInt (1409)) ∈ WT := WT_mem (List.mem_append_right _ (List.mem_of_getElem? (i := 612) (by decide +kernel))) (by decide +kernel)
theorem kc_X8_223 : Cond.constantLong RX8 223 (Int64.ofInt (31)) ∈ WT := WT_mem (List.mem_append_right _ (List.mem_of_getElem? (i := 617) (by decide +kernel))) (by decide +kernel)
theorem kc_X9_71 : Cond.constantLong RX9 71 (Int64.ofInt (126)) ∈ WT := WT_mem (List.mem_append_right _ (List.mem_of_getElem? (i := 738) (by decide +kernel))) (by decide +kernel)
theorem kc_X9_80 : Cond.constantLong RX9 80 (Int64.ofInt (97)) ∈ WT := WT_mem (List.mem_append_right _ (List.mem_of_getElem? (i := 758) (by decide +kernel))) (by decide +kernel)
theorem kc_X9_82 : Cond.constantLong RX9 82 (Int64.ofInt (101)) ∈ WT := WT_mem (List.mem_append_right _ (List.mem_of_getElem? (i := 759) (by decide +kernel))) (by decide +kernel)
theorem kc_X9_175 : Cond.constantLong RX9 175 (Int64.ofInt (2)) ∈ WT := WT_mem (List.mem_append_right _ (List.mem_of_getElem? (i := 865) (by decide +kernel))) (by decide +kernel)
theorem kc_X9_218 : Cond.constant RX9 218 (Int32.ofInt (1065353216)) ∈ WT := WT_mem (List.mem_append_right _ (List.mem_of_getElem? (i := 869) (by decide +kernel))) (by decide +kernel)
theorem kc_X9_228 : Cond.constantLong RX9 228 (Int64.ofInt (4)) ∈ WT := WT_mem (List.mem_append_right _ (List.mem_of_getElem? (i := 889) (by decide +kernel))) (by decide +kernel)
theorem kc_X9_242 : Cond.constant RX9 242 (Int32.ofInt (2097152)) ∈ WT := WT_mem (List.mem_append_right _ (List.mem_of_getElem? (i := 928) (by decide +kernel))) (by decide +kernel)
theorem kc_X9_268 : Cond.constantLong RX9 268 (Int64.ofInt (-103)) ∈ WT := WT_mem (List.mem_append_right _ (List.mem_of_getElem? (i := 981) (by decide +kernel))) (by decide +kernel)
theorem kc_X9_280 : Cond.constantLong RX9 280 (Int64.ofInt (30)) ∈ WT := WT_mem (List.mem_append_right _ (List.mem_of_getElem? (i := 986) (by decide +kernel))) (by decide +kernel)
theorem kc_X9_270 : Cond.constantLong RX9 270 (Int64.ofInt (1103515245)) ∈ WT := WT_mem (List.mem_append_right _ (List.mem_of_getElem? (i := 991) (by decide +kernel))) (by decide +kernel)
theorem kc_X9_275 : Cond.constantLong RX9 275 (Int64.ofInt (12345)) ∈ WT := WT_mem (List.mem_append_right _ (List.mem_of_getElem? (i := 992) (by decide +kernel))) (by decide +kernel)
theorem kc_X9_277 : Cond.constantLong RX9 277 (Int64.ofInt (2147483647)) ∈ WT := WT_mem (List.mem_append_right _ (List.mem_of_getElem? (i := 993) (by decide +kernel))) (by decide +kernel)
theorem kc_X9_279 : Cond.constant RX9 279 (Int32.ofInt (65536)) ∈ WT := WT_mem (List.mem_append_right _ (List.mem_of_getElem? (i := 994) (by decide +kernel))) (by decide +kernel)
theorem kc_X9_304 : Cond.constantLong RX9 304 (Int64.ofInt (1409)) ∈ WT := WT_mem (List.mem_append_right _ (List.mem_of_getElem? (i := 1023) (by decide +kernel))) (by decide +kernel)
theorem kc_X9_294 : Cond.constantLong RX9 294 (Int64.ofInt (31)) ∈ WT := WT_mem (List.mem_append_right _ (List.mem_of_getElem? (i := 1028) (by decide +kernel))) (by decide +kernel)
def IsSides (b : Nat) : Prop := KD[b]? = some (.inl (7, [.inl (b + 1), .inl (b + 4)])) ∧ KD[b + 1]? = some (.inr (.inr (2, b + 2))) ∧ (∀ i, i < 2 → KD[b + 2 + i]? = some (.inr (.inl 8))) ∧ KD[b + 4]? = some (.inr (.inl 2))
def IsCommon (f : Nat) : Prop := KD[f]? = some (.inl (0, [.inl (f + 1)])) ∧ KD[f + 1]? = some (.inr (.inr (9, f + 2))) ∧ (∀ i, i < 9 → KD[f + 2 + i]? = some (.inr (.inl 9)))
def IsMatch (o : Nat) : Prop := KD[o]? = some (.inl (2, [.inl (o + 1), .inl (o + 6), .inl (o + 9), .inl (o + 20), .inl (o + 21), .inl (o + 22), .inl (o + 23), .inr false, .inr false])) ∧ IsSides (o + 1) ∧ KD[o + 6]? = some (.inr (.inr (2, o + 7))) ∧ (∀ i, i < 2 → KD[o + 7 + i]? = some (.inr (.inl 8))) ∧ IsCommon (o + 9) ∧ KD[o + 20]? = some (.inr (.inl 8)) ∧ KD[o + 21]? = some (.inr (.inl 8)) ∧ KD[o + 22]? = some (.inr (.inl 2)) ∧ KD[o + 23]? = some (.inr (.inl 2))
theorem rows_2 {b l : Nat} (h0 : KD[b]? = some (.inr (.inl l))) (h1 : KD[b + 1]? = some (.inr (.inl l))) : ∀ i, i < 2 → KD[b + i]? = some (.inr (.inl l))
  | 0, _ => h0
  | 1, _ => h1
  | i + 2, h => absurd h (by omega)
theorem rows_all {b l n : Nat} (h : (List.range n).all (fun i => decide (KD[b + i]? = some (.inr (.inl l)))) = true) : ∀ i, i < n → KD[b + i]? = some (.inr (.inl l)) := fun i hi => by
  simpa using List.all_eq_true.mp h i (List.mem_range.mpr hi)
theorem isSides_5 : IsSides 5 := ⟨rfl, rfl, rows_2 rfl rfl, rfl⟩
theorem isSides_29 : IsSides 29 := ⟨rfl, rfl, rows_2 rfl rfl, rfl⟩
theorem isSides_52 : IsSides 52 := ⟨rfl, rfl, rows_2 rfl rfl, rfl⟩
theorem isCommon_13 : IsCommon 13 := ⟨rfl, rfl, rows_all (by decide +kernel)⟩
theorem isCommon_37 : IsCommon 37 := ⟨rfl, rfl, rows_all (by decide +kernel)⟩
theorem isCommon_58 : IsCommon 58 := ⟨rfl, rfl, rows_all (by decide +kernel)⟩
theorem isMatch_4 : IsMatch 4 := ⟨rfl, isSides_5, rfl, rows_2 rfl rfl, isCommon_13, rfl, rfl, rfl, rfl⟩
theorem isMatch_28 : IsMatch 28 := ⟨rfl, isSides_29, rfl, rows_2 rfl rfl, isCommon_37, rfl, rfl, rfl, rfl⟩
theorem inb_nat {z : Int} {n : Nat} (h : 0 ≤ z ∧ z < n) : z.toNat < n := by omega
