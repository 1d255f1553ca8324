/-! The words of links stand in the tables. Printed by wip/whole/gen07.py. -/
section AXLW
set_option maxRecDepth 20000
def ax_Fw (q : Nat × Nat × Nat × Nat × Nat × Nat × Nat) : Cond := .fieldLink (ax_on q.1) q.2.1 (ax_on q.2.2.2.2.2.1) (ax_T q.2.2.1 q.2.2.2.1).2.1 (ax_T q.2.2.1 q.2.2.2.1).2.2.1
def ax_LFp (q : Nat × Nat × Nat × Nat × Nat × Nat × Nat) : Prop := ax_gw (ax_Fw q) ∧ q.2.2.1 < 9 ∧ q.2.2.2.1 < ax_N q.2.2.1 ∧ q.2.2.2.2.1 = ax_fk q.2.2.1 q.2.2.2.1 ∧ (ax_on q.2.2.2.2.2.1 = (ax_T q.2.2.1 q.2.2.2.1).1 ∨ (ax_on q.2.2.2.2.2.1 = "java/util/ArrayList" ∧ q.2.2.1 = 8 ∧ q.2.2.2.1 = 0))
theorem ax_lfw0 : ax_LFp (0, 12, 0, 0, 1, 0, 94) := ⟨⟨ax_t1 (List.mem_of_getElem? (i := 68) rfl), rfl⟩, by decide, by decide, rfl, Or.inl rfl⟩
theorem ax_lfw1 : ax_LFp (0, 18, 5, 6, 0, 5, 260) := ⟨⟨ax_t1 (List.mem_of_getElem? (i := 234) rfl), rfl⟩, by decide, by decide, rfl, Or.inl rfl⟩
theorem ax_lfw2 : ax_LFp (0, 34, 5, 0, 0, 5, 251) := ⟨⟨ax_t1 (List.mem_of_getElem? (i := 225) rfl), rfl⟩, by decide, by decide, rfl, Or.inl rfl⟩
theorem ax_lfw3 : ax_LFp (0, 51, 1, 0, 0, 1, 709) := ⟨⟨ax_t3 (List.mem_of_getElem? (i := 203) rfl), rfl⟩, by decide, by decide, rfl, Or.inl rfl⟩
theorem ax_lfw4 : ax_LFp (1, 7, 1, 0, 0, 1, 708) := ⟨⟨ax_t3 (List.mem_of_getElem? (i := 202) rfl), rfl⟩, by decide, by decide, rfl, Or.inl rfl⟩
theorem ax_lfw5 : ax_LFp (1, 13, 1, 1, 0, 1, 711) := ⟨⟨ax_t3 (List.mem_of_getElem? (i := 205) rfl), rfl⟩, by decide, by decide, rfl, Or.inl rfl⟩
theorem ax_lfw6 : ax_LFp (1, 16, 1, 2, 1, 1, 713) := ⟨⟨ax_t3 (List.mem_of_getElem? (i := 207) rfl), rfl⟩, by decide, by decide, rfl, Or.inl rfl⟩
theorem ax_lfw7 : ax_LFp (2, 9, 2, 0, 1, 2, 562) := ⟨⟨ax_t3 (List.mem_of_getElem? (i := 56) rfl), rfl⟩, by decide, by decide, rfl, Or.inl rfl⟩
theorem ax_lfw8 : ax_LFp (2, 15, 2, 1, 0, 2, 564) := ⟨⟨ax_t3 (List.mem_of_getElem? (i := 58) rfl), rfl⟩, by decide, by decide, rfl, Or.inl rfl⟩
theorem ax_lfw9 : ax_LFp (2, 19, 2, 2, 0, 2, 566) := ⟨⟨ax_t3 (List.mem_of_getElem? (i := 60) rfl), rfl⟩, by decide, by decide, rfl, Or.inl rfl⟩
theorem ax_lfw10 : ax_LFp (2, 22, 2, 5, 0, 2, 571) := ⟨⟨ax_t3 (List.mem_of_getElem? (i := 65) rfl), rfl⟩, by decide, by decide, rfl, Or.inl rfl⟩
theorem ax_lfw11 : ax_LFp (2, 25, 2, 6, 2, 2, 573) := ⟨⟨ax_t3 (List.mem_of_getElem? (i := 67) rfl), rfl⟩, by decide, by decide, rfl, Or.inl rfl⟩
theorem ax_lfw12 : ax_LFp (3, 9, 3, 0, 1, 3, 535) := ⟨⟨ax_t3 (List.mem_of_getElem? (i := 29) rfl), rfl⟩, by decide, by decide, rfl, Or.inl rfl⟩
theorem ax_lfw13 : ax_LFp (3, 15, 3, 1, 1, 3, 537) := ⟨⟨ax_t3 (List.mem_of_getElem? (i := 31) rfl), rfl⟩, by decide, by decide, rfl, Or.inl rfl⟩
theorem ax_lfw14 : ax_LFp (3, 21, 3, 2, 1, 3, 540) := ⟨⟨ax_t3 (List.mem_of_getElem? (i := 34) rfl), rfl⟩, by decide, by decide, rfl, Or.inl rfl⟩
theorem ax_lfw15 : ax_LFp (3, 34, 2, 2, 0, 2, 567) := ⟨⟨ax_t3 (List.mem_of_getElem? (i := 61) rfl), rfl⟩, by decide, by decide, rfl, Or.inl rfl⟩
theorem ax_lfw16 : ax_LFp (3, 42, 5, 8, 2, 5, 267) := ⟨⟨ax_t2 (List.mem_of_getElem? (i := 1) rfl), rfl⟩, by decide, by decide, rfl, Or.inl rfl⟩
theorem ax_lfw17 : ax_LFp (3, 50, 5, 7, 2, 5, 264) := ⟨⟨ax_t1 (List.mem_of_getElem? (i := 238) rfl), rfl⟩, by decide, by decide, rfl, Or.inl rfl⟩
theorem ax_lfw18 : ax_LFp (3, 57, 2, 6, 2, 2, 574) := ⟨⟨ax_t3 (List.mem_of_getElem? (i := 68) rfl), rfl⟩, by decide, by decide, rfl, Or.inl rfl⟩
theorem ax_lfw19 : ax_LFp (3, 60, 5, 9, 2, 5, 271) := ⟨⟨ax_t2 (List.mem_of_getElem? (i := 5) rfl), rfl⟩, by decide, by decide, rfl, Or.inl rfl⟩
theorem ax_lfw20 : ax_LFp (4, 9, 4, 0, 0, 4, 497) := ⟨⟨ax_t2 (List.mem_of_getElem? (i := 231) rfl), rfl⟩, by decide, by decide, rfl, Or.inl rfl⟩
theorem ax_lfw21 : ax_LFp (4, 15, 4, 1, 0, 4, 499) := ⟨⟨ax_t2 (List.mem_of_getElem? (i := 233) rfl), rfl⟩, by decide, by decide, rfl, Or.inl rfl⟩
theorem ax_lfw22 : ax_LFp (4, 18, 4, 2, 1, 4, 501) := ⟨⟨ax_t2 (List.mem_of_getElem? (i := 235) rfl), rfl⟩, by decide, by decide, rfl, Or.inl rfl⟩
theorem ax_lfw23 : ax_LFp (4, 25, 4, 3, 1, 4, 503) := ⟨⟨ax_t2 (List.mem_of_getElem? (i := 237) rfl), rfl⟩, by decide, by decide, rfl, Or.inl rfl⟩
theorem ax_lfw24 : ax_LFp (4, 29, 4, 4, 0, 4, 505) := ⟨⟨ax_t2 (List.mem_of_getElem? (i := 239) rfl), rfl⟩, by decide, by decide, rfl, Or.inl rfl⟩
theorem ax_lfw25 : ax_LFp (4, 62, 3, 1, 1, 3, 538) := ⟨⟨ax_t3 (List.mem_of_getElem? (i := 32) rfl), rfl⟩, by decide, by decide, rfl, Or.inl rfl⟩
theorem ax_lfw26 : ax_LFp (5, 7, 5, 0, 0, 5, 250) := ⟨⟨ax_t1 (List.mem_of_getElem? (i := 224) rfl), rfl⟩, by decide, by decide, rfl, Or.inl rfl⟩
theorem ax_lfw27 : ax_LFp (5, 13, 5, 1, 0, 5, 253) := ⟨⟨ax_t1 (List.mem_of_getElem? (i := 227) rfl), rfl⟩, by decide, by decide, rfl, Or.inl rfl⟩
theorem ax_lfw28 : ax_LFp (5, 16, 5, 2, 0, 5, 254) := ⟨⟨ax_t1 (List.mem_of_getElem? (i := 228) rfl), rfl⟩, by decide, by decide, rfl, Or.inl rfl⟩
theorem ax_lfw29 : ax_LFp (5, 19, 5, 9, 2, 5, 269) := ⟨⟨ax_t2 (List.mem_of_getElem? (i := 3) rfl), rfl⟩, by decide, by decide, rfl, Or.inl rfl⟩
theorem ax_lfw30 : ax_LFp (5, 26, 5, 3, 0, 5, 255) := ⟨⟨ax_t1 (List.mem_of_getElem? (i := 229) rfl), rfl⟩, by decide, by decide, rfl, Or.inl rfl⟩
theorem ax_lfw31 : ax_LFp (5, 29, 5, 4, 0, 5, 256) := ⟨⟨ax_t1 (List.mem_of_getElem? (i := 230) rfl), rfl⟩, by decide, by decide, rfl, Or.inl rfl⟩
theorem ax_lfw32 : ax_LFp (5, 32, 5, 5, 0, 5, 258) := ⟨⟨ax_t1 (List.mem_of_getElem? (i := 232) rfl), rfl⟩, by decide, by decide, rfl, Or.inl rfl⟩
theorem ax_lfw33 : ax_LFp (5, 35, 5, 6, 0, 5, 261) := ⟨⟨ax_t1 (List.mem_of_getElem? (i := 235) rfl), rfl⟩, by decide, by decide, rfl, Or.inl rfl⟩
theorem ax_lfw34 : ax_LFp (5, 38, 5, 7, 2, 5, 263) := ⟨⟨ax_t1 (List.mem_of_getElem? (i := 237) rfl), rfl⟩, by decide, by decide, rfl, Or.inl rfl⟩
theorem ax_lfw35 : ax_LFp (5, 41, 5, 8, 2, 5, 266) := ⟨⟨ax_t2 (List.mem_of_getElem? (i := 0) rfl), rfl⟩, by decide, by decide, rfl, Or.inl rfl⟩
theorem ax_lfw36 : ax_LFp (6, 12, 6, 0, 1, 6, 99) := ⟨⟨ax_t1 (List.mem_of_getElem? (i := 73) rfl), rfl⟩, by decide, by decide, rfl, Or.inl rfl⟩
theorem ax_lfw37 : ax_LFp (6, 16, 6, 1, 1, 6, 100) := ⟨⟨ax_t1 (List.mem_of_getElem? (i := 74) rfl), rfl⟩, by decide, by decide, rfl, Or.inl rfl⟩
theorem ax_lfw38 : ax_LFp (6, 19, 6, 2, 1, 6, 101) := ⟨⟨ax_t1 (List.mem_of_getElem? (i := 75) rfl), rfl⟩, by decide, by decide, rfl, Or.inl rfl⟩
theorem ax_lfw39 : ax_LFp (6, 24, 6, 3, 1, 6, 102) := ⟨⟨ax_t1 (List.mem_of_getElem? (i := 76) rfl), rfl⟩, by decide, by decide, rfl, Or.inl rfl⟩
theorem ax_lfw40 : ax_LFp (6, 31, 6, 4, 1, 6, 103) := ⟨⟨ax_t1 (List.mem_of_getElem? (i := 77) rfl), rfl⟩, by decide, by decide, rfl, Or.inl rfl⟩
theorem ax_lfw41 : ax_LFp (6, 63, 5, 0, 0, 5, 252) := ⟨⟨ax_t1 (List.mem_of_getElem? (i := 226) rfl), rfl⟩, by decide, by decide, rfl, Or.inl rfl⟩
theorem ax_lfw42 : ax_LFp (6, 81, 5, 4, 0, 5, 257) := ⟨⟨ax_t1 (List.mem_of_getElem? (i := 231) rfl), rfl⟩, by decide, by decide, rfl, Or.inl rfl⟩
theorem ax_lfw43 : ax_LFp (6, 114, 5, 6, 0, 5, 262) := ⟨⟨ax_t1 (List.mem_of_getElem? (i := 236) rfl), rfl⟩, by decide, by decide, rfl, Or.inl rfl⟩
theorem ax_lfw44 : ax_LFp (6, 117, 5, 5, 0, 5, 259) := ⟨⟨ax_t1 (List.mem_of_getElem? (i := 233) rfl), rfl⟩, by decide, by decide, rfl, Or.inl rfl⟩
theorem ax_lfw45 : ax_LFp (6, 123, 5, 7, 2, 5, 265) := ⟨⟨ax_t1 (List.mem_of_getElem? (i := 239) rfl), rfl⟩, by decide, by decide, rfl, Or.inl rfl⟩
theorem ax_lfw46 : ax_LFp (6, 127, 5, 8, 2, 5, 268) := ⟨⟨ax_t2 (List.mem_of_getElem? (i := 2) rfl), rfl⟩, by decide, by decide, rfl, Or.inl rfl⟩
theorem ax_lfw47 : ax_LFp (6, 130, 5, 9, 2, 5, 270) := ⟨⟨ax_t2 (List.mem_of_getElem? (i := 4) rfl), rfl⟩, by decide, by decide, rfl, Or.inl rfl⟩
theorem ax_lfw48 : ax_LFp (6, 170, 4, 0, 0, 4, 498) := ⟨⟨ax_t2 (List.mem_of_getElem? (i := 232) rfl), rfl⟩, by decide, by decide, rfl, Or.inl rfl⟩
theorem ax_lfw49 : ax_LFp (6, 175, 4, 4, 0, 4, 506) := ⟨⟨ax_t3 (List.mem_of_getElem? (i := 0) rfl), rfl⟩, by decide, by decide, rfl, Or.inl rfl⟩
theorem ax_lfw50 : ax_LFp (6, 188, 2, 2, 0, 2, 568) := ⟨⟨ax_t3 (List.mem_of_getElem? (i := 62) rfl), rfl⟩, by decide, by decide, rfl, Or.inl rfl⟩
theorem ax_lfw51 : ax_LFp (6, 189, 2, 3, 0, 2, 569) := ⟨⟨ax_t3 (List.mem_of_getElem? (i := 63) rfl), rfl⟩, by decide, by decide, rfl, Or.inl rfl⟩
theorem ax_lfw52 : ax_LFp (6, 192, 2, 5, 0, 2, 572) := ⟨⟨ax_t3 (List.mem_of_getElem? (i := 66) rfl), rfl⟩, by decide, by decide, rfl, Or.inl rfl⟩
theorem ax_lfw53 : ax_LFp (6, 204, 3, 0, 1, 3, 536) := ⟨⟨ax_t3 (List.mem_of_getElem? (i := 30) rfl), rfl⟩, by decide, by decide, rfl, Or.inl rfl⟩
theorem ax_lfw54 : ax_LFp (6, 208, 4, 3, 1, 4, 504) := ⟨⟨ax_t2 (List.mem_of_getElem? (i := 238) rfl), rfl⟩, by decide, by decide, rfl, Or.inl rfl⟩
theorem ax_lfw55 : ax_LFp (6, 211, 3, 1, 1, 3, 539) := ⟨⟨ax_t3 (List.mem_of_getElem? (i := 33) rfl), rfl⟩, by decide, by decide, rfl, Or.inl rfl⟩
theorem ax_lfw56 : ax_LFp (6, 222, 2, 0, 1, 2, 563) := ⟨⟨ax_t3 (List.mem_of_getElem? (i := 57) rfl), rfl⟩, by decide, by decide, rfl, Or.inl rfl⟩
theorem ax_lfw57 : ax_LFp (6, 234, 4, 2, 1, 4, 502) := ⟨⟨ax_t2 (List.mem_of_getElem? (i := 236) rfl), rfl⟩, by decide, by decide, rfl, Or.inl rfl⟩
theorem ax_lfw58 : ax_LFp (6, 242, 2, 1, 0, 2, 565) := ⟨⟨ax_t3 (List.mem_of_getElem? (i := 59) rfl), rfl⟩, by decide, by decide, rfl, Or.inl rfl⟩
theorem ax_lfw59 : ax_LFp (6, 263, 2, 6, 2, 2, 575) := ⟨⟨ax_t3 (List.mem_of_getElem? (i := 69) rfl), rfl⟩, by decide, by decide, rfl, Or.inl rfl⟩
theorem ax_lfw60 : ax_LFp (6, 266, 0, 0, 1, 0, 95) := ⟨⟨ax_t1 (List.mem_of_getElem? (i := 69) rfl), rfl⟩, by decide, by decide, rfl, Or.inl rfl⟩
theorem ax_lfw61 : ax_LFp (6, 273, 1, 0, 0, 1, 710) := ⟨⟨ax_t3 (List.mem_of_getElem? (i := 204) rfl), rfl⟩, by decide, by decide, rfl, Or.inl rfl⟩
theorem ax_lfw62 : ax_LFp (6, 279, 1, 1, 0, 1, 712) := ⟨⟨ax_t3 (List.mem_of_getElem? (i := 206) rfl), rfl⟩, by decide, by decide, rfl, Or.inl rfl⟩
theorem ax_lfw63 : ax_LFp (6, 282, 1, 2, 1, 1, 714) := ⟨⟨ax_t3 (List.mem_of_getElem? (i := 208) rfl), rfl⟩, by decide, by decide, rfl, Or.inl rfl⟩
theorem ax_lfw64 : ax_LFp (6, 289, 3, 2, 1, 3, 541) := ⟨⟨ax_t3 (List.mem_of_getElem? (i := 35) rfl), rfl⟩, by decide, by decide, rfl, Or.inl rfl⟩
theorem ax_lfw65 : ax_LFp (6, 320, 2, 4, 0, 2, 570) := ⟨⟨ax_t3 (List.mem_of_getElem? (i := 64) rfl), rfl⟩, by decide, by decide, rfl, Or.inl rfl⟩
theorem ax_lfw66 : ax_LFp (6, 335, 4, 1, 0, 4, 500) := ⟨⟨ax_t2 (List.mem_of_getElem? (i := 234) rfl), rfl⟩, by decide, by decide, rfl, Or.inl rfl⟩
theorem ax_lfw67 : ax_LFp (10, 7, 8, 0, 0, 10, 74) := ⟨⟨ax_t1 (List.mem_of_getElem? (i := 48) rfl), rfl⟩, by decide, by decide, rfl, Or.inl rfl⟩
theorem ax_lfw68 : ax_LFp (11, 9, 8, 1, 1, 11, 72) := ⟨⟨ax_t1 (List.mem_of_getElem? (i := 46) rfl), rfl⟩, by decide, by decide, rfl, Or.inl rfl⟩
theorem ax_lfw69 : ax_LFp (11, 48, 8, 2, 0, 11, 73) := ⟨⟨ax_t1 (List.mem_of_getElem? (i := 47) rfl), rfl⟩, by decide, by decide, rfl, Or.inl rfl⟩
theorem ax_lfw70 : ax_LFp (11, 63, 8, 0, 0, 11, 75) := ⟨⟨ax_t1 (List.mem_of_getElem? (i := 49) rfl), rfl⟩, by decide, by decide, rfl, Or.inr ⟨rfl, rfl, rfl⟩⟩
theorem ax_LF_w : ∀ q ∈ ax_LF, ax_LFp q := List.forall_mem_cons.mpr ⟨ax_lfw0, List.forall_mem_cons.mpr ⟨ax_lfw1, List.forall_mem_cons.mpr ⟨ax_lfw2, List.forall_mem_cons.mpr ⟨ax_lfw3, List.forall_mem_cons.mpr ⟨ax_lfw4, List.forall_mem_cons.mpr ⟨ax_lfw5, List.forall_mem_cons.mpr ⟨ax_lfw6, List.forall_mem_cons.mpr ⟨ax_lfw7, List.forall_mem_cons.mpr ⟨ax_lfw8, List.forall_mem_cons.mpr ⟨ax_lfw9, List.forall_mem_cons.mpr ⟨ax_lfw10, List.forall_mem_cons.mpr ⟨ax_lfw11, List.forall_mem_cons.mpr ⟨ax_lfw12, List.forall_mem_cons.mpr ⟨ax_lfw13, List.forall_mem_cons.mpr ⟨ax_lfw14, List.forall_mem_cons.mpr ⟨ax_lfw15, List.forall_mem_cons.mpr ⟨ax_lfw16, List.forall_mem_cons.mpr ⟨ax_lfw17, List.forall_mem_cons.mpr ⟨ax_lfw18, List.forall_mem_cons.mpr ⟨ax_lfw19, List.forall_mem_cons.mpr ⟨ax_lfw20, List.forall_mem_cons.mpr ⟨ax_lfw21, List.forall_mem_cons.mpr ⟨ax_lfw22, List.forall_mem_cons.mpr ⟨ax_lfw23, List.forall_mem_cons.mpr ⟨ax_lfw24, List.forall_mem_cons.mpr ⟨ax_lfw25, List.forall_mem_cons.mpr ⟨ax_lfw26, List.forall_mem_cons.mpr ⟨ax_lfw27, List.forall_mem_cons.mpr ⟨ax_lfw28, List.forall_mem_cons.mpr ⟨ax_lfw29, List.forall_mem_cons.mpr ⟨ax_lfw30, List.forall_mem_cons.mpr ⟨ax_lfw31, List.forall_mem_cons.mpr ⟨ax_lfw32, List.forall_mem_cons.mpr ⟨ax_lfw33, List.forall_mem_cons.mpr ⟨ax_lfw34, List.forall_mem_cons.mpr ⟨ax_lfw35, List.forall_mem_cons.mpr ⟨ax_lfw36, List.forall_mem_cons.mpr ⟨ax_lfw37, List.forall_mem_cons.mpr ⟨ax_lfw38, List.forall_mem_cons.mpr ⟨ax_lfw39, List.forall_mem_cons.mpr ⟨ax_lfw40, List.forall_mem_cons.mpr ⟨ax_lfw41, List.forall_mem_cons.mpr ⟨ax_lfw42, List.forall_mem_cons.mpr ⟨ax_lfw43, List.forall_mem_cons.mpr ⟨ax_lfw44, List.forall_mem_cons.mpr ⟨ax_lfw45, List.forall_mem_cons.mpr ⟨ax_lfw46, List.forall_mem_cons.mpr ⟨ax_lfw47, List.forall_mem_cons.mpr ⟨ax_lfw48, List.forall_mem_cons.mpr ⟨ax_lfw49, List.forall_mem_cons.mpr ⟨ax_lfw50, List.forall_mem_cons.mpr ⟨ax_lfw51, List.forall_mem_cons.mpr ⟨ax_lfw52, List.forall_mem_cons.mpr ⟨ax_lfw53, List.forall_mem_cons.mpr ⟨ax_lfw54, List.forall_mem_cons.mpr ⟨ax_lfw55, List.forall_mem_cons.mpr ⟨ax_lfw56, List.forall_mem_cons.mpr ⟨ax_lfw57, List.forall_mem_cons.mpr ⟨ax_lfw58, List.forall_mem_cons.mpr ⟨ax_lfw59, List.forall_mem_cons.mpr ⟨ax_lfw60, List.forall_mem_cons.mpr ⟨ax_lfw61, List.forall_mem_cons.mpr ⟨ax_lfw62, List.forall_mem_cons.mpr ⟨ax_lfw63, List.forall_mem_cons.mpr ⟨ax_lfw64, List.forall_mem_cons.mpr ⟨ax_lfw65, List.forall_mem_cons.mpr ⟨ax_lfw66, List.forall_mem_cons.mpr ⟨ax_lfw67, List.forall_mem_cons.mpr ⟨ax_lfw68, List.forall_mem_cons.mpr ⟨ax_lfw69, List.forall_mem_cons.mpr ⟨ax_lfw70, fun _ h => absurd h List.not_mem_nil⟩⟩⟩⟩⟩⟩⟩⟩⟩⟩⟩⟩⟩⟩⟩⟩⟩⟩⟩⟩⟩⟩⟩⟩⟩⟩⟩⟩⟩⟩⟩⟩⟩⟩⟩⟩⟩⟩⟩⟩⟩⟩⟩⟩⟩⟩⟩⟩⟩⟩⟩⟩⟩⟩⟩⟩⟩⟩⟩⟩⟩⟩⟩⟩⟩⟩⟩⟩⟩⟩⟩
def ax_LMp (q : Nat × Nat × Nat) : Prop := ax_gw (.methodLink (ax_on q.1) q.2.1 (ax_y q.2.2)) ∧ q.2.2 < 195
theorem ax_lmw0 : ax_LMp (0, 11, 154) := ⟨⟨ax_t1 (List.mem_of_getElem? (i := 67) rfl), rfl⟩, by decide⟩
theorem ax_lmw1 : ax_LMp (0, 24, 157) := ⟨⟨ax_t2 (List.mem_of_getElem? (i := 140) rfl), rfl⟩, by decide⟩
theorem ax_lmw2 : ax_LMp (0, 28, 160) := ⟨⟨ax_t2 (List.mem_of_getElem? (i := 141) rfl), rfl⟩, by decide⟩
theorem ax_lmw3 : ax_LMp (0, 37, 5) := ⟨⟨ax_t3 (List.mem_of_getElem? (i := 165) rfl), rfl⟩, by decide⟩
theorem ax_lmw4 : ax_LMp (0, 41, 164) := ⟨⟨ax_t2 (List.mem_of_getElem? (i := 143) rfl), rfl⟩, by decide⟩
theorem ax_lmw5 : ax_LMp (0, 44, 163) := ⟨⟨ax_t3 (List.mem_of_getElem? (i := 170) rfl), rfl⟩, by decide⟩
theorem ax_lmw6 : ax_LMp (0, 48, 4) := ⟨⟨ax_t3 (List.mem_of_getElem? (i := 198) rfl), rfl⟩, by decide⟩
theorem ax_lmw7 : ax_LMp (3, 25, 29) := ⟨⟨ax_t3 (List.mem_of_getElem? (i := 47) rfl), rfl⟩, by decide⟩
theorem ax_lmw8 : ax_LMp (3, 31, 6) := ⟨⟨ax_t3 (List.mem_of_getElem? (i := 52) rfl), rfl⟩, by decide⟩
theorem ax_lmw9 : ax_LMp (3, 38, 7) := ⟨⟨ax_t3 (List.mem_of_getElem? (i := 103) rfl), rfl⟩, by decide⟩
theorem ax_lmw10 : ax_LMp (3, 46, 8) := ⟨⟨ax_t3 (List.mem_of_getElem? (i := 119) rfl), rfl⟩, by decide⟩
theorem ax_lmw11 : ax_LMp (3, 53, 12) := ⟨⟨ax_t3 (List.mem_of_getElem? (i := 184) rfl), rfl⟩, by decide⟩
theorem ax_lmw12 : ax_LMp (3, 63, 9) := ⟨⟨ax_t2 (List.mem_of_getElem? (i := 195) rfl), rfl⟩, by decide⟩
theorem ax_lmw13 : ax_LMp (4, 24, 154) := ⟨⟨ax_t2 (List.mem_of_getElem? (i := 230) rfl), rfl⟩, by decide⟩
theorem ax_lmw14 : ax_LMp (4, 34, 28) := ⟨⟨ax_t3 (List.mem_of_getElem? (i := 18) rfl), rfl⟩, by decide⟩
theorem ax_lmw15 : ax_LMp (4, 40, 10) := ⟨⟨ax_t3 (List.mem_of_getElem? (i := 24) rfl), rfl⟩, by decide⟩
theorem ax_lmw16 : ax_LMp (4, 43, 11) := ⟨⟨ax_t3 (List.mem_of_getElem? (i := 43) rfl), rfl⟩, by decide⟩
theorem ax_lmw17 : ax_LMp (4, 46, 163) := ⟨⟨ax_t3 (List.mem_of_getElem? (i := 85) rfl), rfl⟩, by decide⟩
theorem ax_lmw18 : ax_LMp (4, 50, 157) := ⟨⟨ax_t2 (List.mem_of_getElem? (i := 188) rfl), rfl⟩, by decide⟩
theorem ax_lmw19 : ax_LMp (4, 54, 160) := ⟨⟨ax_t2 (List.mem_of_getElem? (i := 189) rfl), rfl⟩, by decide⟩
theorem ax_lmw20 : ax_LMp (4, 58, 12) := ⟨⟨ax_t2 (List.mem_of_getElem? (i := 220) rfl), rfl⟩, by decide⟩
theorem ax_lmw21 : ax_LMp (4, 66, 21) := ⟨⟨ax_t3 (List.mem_of_getElem? (i := 94) rfl), rfl⟩, by decide⟩
theorem ax_lmw22 : ax_LMp (4, 70, 31) := ⟨⟨ax_t3 (List.mem_of_getElem? (i := 98) rfl), rfl⟩, by decide⟩
theorem ax_lmw23 : ax_LMp (4, 74, 13) := ⟨⟨ax_t3 (List.mem_of_getElem? (i := 99) rfl), rfl⟩, by decide⟩
theorem ax_lmw24 : ax_LMp (4, 78, 14) := ⟨⟨ax_t3 (List.mem_of_getElem? (i := 115) rfl), rfl⟩, by decide⟩
theorem ax_lmw25 : ax_LMp (4, 81, 17) := ⟨⟨ax_t2 (List.mem_of_getElem? (i := 191) rfl), rfl⟩, by decide⟩
theorem ax_lmw26 : ax_LMp (5, 23, 27) := ⟨⟨ax_t3 (List.mem_of_getElem? (i := 23) rfl), rfl⟩, by decide⟩
theorem ax_lmw27 : ax_LMp (6, 11, 154) := ⟨⟨ax_t1 (List.mem_of_getElem? (i := 34) rfl), rfl⟩, by decide⟩
theorem ax_lmw28 : ax_LMp (6, 30, 0) := ⟨⟨ax_t1 (List.mem_of_getElem? (i := 62) rfl), rfl⟩, by decide⟩
theorem ax_lmw29 : ax_LMp (6, 42, 69) := ⟨⟨ax_t1 (List.mem_of_getElem? (i := 178) rfl), rfl⟩, by decide⟩
theorem ax_lmw30 : ax_LMp (6, 45, 157) := ⟨⟨ax_t1 (List.mem_of_getElem? (i := 93) rfl), rfl⟩, by decide⟩
theorem ax_lmw31 : ax_LMp (6, 56, 27) := ⟨⟨ax_t1 (List.mem_of_getElem? (i := 220) rfl), rfl⟩, by decide⟩
theorem ax_lmw32 : ax_LMp (6, 59, 163) := ⟨⟨ax_t2 (List.mem_of_getElem? (i := 27) rfl), rfl⟩, by decide⟩
theorem ax_lmw33 : ax_LMp (6, 67, 61) := ⟨⟨ax_t2 (List.mem_of_getElem? (i := 93) rfl), rfl⟩, by decide⟩
theorem ax_lmw34 : ax_LMp (6, 71, 31) := ⟨⟨ax_t2 (List.mem_of_getElem? (i := 113) rfl), rfl⟩, by decide⟩
theorem ax_lmw35 : ax_LMp (6, 75, 72) := ⟨⟨ax_t2 (List.mem_of_getElem? (i := 117) rfl), rfl⟩, by decide⟩
theorem ax_lmw36 : ax_LMp (6, 84, 151) := ⟨⟨ax_t2 (List.mem_of_getElem? (i := 122) rfl), rfl⟩, by decide⟩
theorem ax_lmw37 : ax_LMp (6, 120, 3) := ⟨⟨ax_t2 (List.mem_of_getElem? (i := 136) rfl), rfl⟩, by decide⟩
theorem ax_lmw38 : ax_LMp (6, 135, 70) := ⟨⟨ax_t2 (List.mem_of_getElem? (i := 167) rfl), rfl⟩, by decide⟩
theorem ax_lmw39 : ax_LMp (6, 140, 158) := ⟨⟨ax_t2 (List.mem_of_getElem? (i := 171) rfl), rfl⟩, by decide⟩
theorem ax_lmw40 : ax_LMp (6, 144, 71) := ⟨⟨ax_t1 (List.mem_of_getElem? (i := 182) rfl), rfl⟩, by decide⟩
theorem ax_lmw41 : ax_LMp (6, 149, 79) := ⟨⟨ax_t2 (List.mem_of_getElem? (i := 176) rfl), rfl⟩, by decide⟩
theorem ax_lmw42 : ax_LMp (6, 155, 18) := ⟨⟨ax_t2 (List.mem_of_getElem? (i := 225) rfl), rfl⟩, by decide⟩
theorem ax_lmw43 : ax_LMp (6, 158, 160) := ⟨⟨ax_t1 (List.mem_of_getElem? (i := 186) rfl), rfl⟩, by decide⟩
theorem ax_lmw44 : ax_LMp (6, 162, 19) := ⟨⟨ax_t3 (List.mem_of_getElem? (i := 13) rfl), rfl⟩, by decide⟩
theorem ax_lmw45 : ax_LMp (6, 166, 73) := ⟨⟨ax_t3 (List.mem_of_getElem? (i := 86) rfl), rfl⟩, by decide⟩
theorem ax_lmw46 : ax_LMp (6, 171, 62) := ⟨⟨ax_t3 (List.mem_of_getElem? (i := 142) rfl), rfl⟩, by decide⟩
theorem ax_lmw47 : ax_LMp (6, 180, 80) := ⟨⟨ax_t2 (List.mem_of_getElem? (i := 180) rfl), rfl⟩, by decide⟩
theorem ax_lmw48 : ax_LMp (6, 184, 64) := ⟨⟨ax_t4 (List.mem_of_getElem? (i := 40) rfl), rfl⟩, by decide⟩
theorem ax_lmw49 : ax_LMp (6, 195, 63) := ⟨⟨ax_t4 (List.mem_of_getElem? (i := 44) rfl), rfl⟩, by decide⟩
theorem ax_lmw50 : ax_LMp (6, 218, 65) := ⟨⟨ax_t4 (List.mem_of_getElem? (i := 6) rfl), rfl⟩, by decide⟩
theorem ax_lmw51 : ax_LMp (6, 226, 68) := ⟨⟨ax_t3 (List.mem_of_getElem? (i := 155) rfl), rfl⟩, by decide⟩
theorem ax_lmw52 : ax_LMp (6, 231, 164) := ⟨⟨ax_t2 (List.mem_of_getElem? (i := 207) rfl), rfl⟩, by decide⟩
theorem ax_lmw53 : ax_LMp (6, 238, 1) := ⟨⟨ax_t3 (List.mem_of_getElem? (i := 161) rfl), rfl⟩, by decide⟩
theorem ax_lmw54 : ax_LMp (6, 243, 66) := ⟨⟨ax_t3 (List.mem_of_getElem? (i := 175) rfl), rfl⟩, by decide⟩
theorem ax_lmw55 : ax_LMp (6, 246, 2) := ⟨⟨ax_t3 (List.mem_of_getElem? (i := 193) rfl), rfl⟩, by decide⟩
theorem ax_lmw56 : ax_LMp (6, 250, 76) := ⟨⟨ax_t3 (List.mem_of_getElem? (i := 216) rfl), rfl⟩, by decide⟩
theorem ax_lmw57 : ax_LMp (6, 254, 77) := ⟨⟨ax_t3 (List.mem_of_getElem? (i := 185) rfl), rfl⟩, by decide⟩
theorem ax_lmw58 : ax_LMp (6, 257, 15) := ⟨⟨ax_t3 (List.mem_of_getElem? (i := 180) rfl), rfl⟩, by decide⟩
theorem ax_lmw59 : ax_LMp (6, 260, 75) := ⟨⟨ax_t3 (List.mem_of_getElem? (i := 123) rfl), rfl⟩, by decide⟩
theorem ax_lmw60 : ax_LMp (6, 269, 67) := ⟨⟨ax_t4 (List.mem_of_getElem? (i := 27) rfl), rfl⟩, by decide⟩
theorem ax_lmw61 : ax_LMp (6, 304, 20) := ⟨⟨ax_t3 (List.mem_of_getElem? (i := 90) rfl), rfl⟩, by decide⟩
theorem ax_lmw62 : ax_LMp (6, 308, 74) := ⟨⟨ax_t3 (List.mem_of_getElem? (i := 107) rfl), rfl⟩, by decide⟩
theorem ax_lmw63 : ax_LMp (6, 312, 23) := ⟨⟨ax_t3 (List.mem_of_getElem? (i := 127) rfl), rfl⟩, by decide⟩
theorem ax_lmw64 : ax_LMp (6, 315, 24) := ⟨⟨ax_t3 (List.mem_of_getElem? (i := 131) rfl), rfl⟩, by decide⟩
theorem ax_lmw65 : ax_LMp (6, 316, 22) := ⟨⟨ax_t3 (List.mem_of_getElem? (i := 111) rfl), rfl⟩, by decide⟩
theorem ax_lmw66 : ax_LMp (6, 323, 16) := ⟨⟨ax_t3 (List.mem_of_getElem? (i := 220) rfl), rfl⟩, by decide⟩
theorem ax_lmw67 : ax_LMp (6, 326, 81) := ⟨⟨ax_t2 (List.mem_of_getElem? (i := 199) rfl), rfl⟩, by decide⟩
theorem ax_lmw68 : ax_LMp (6, 329, 78) := ⟨⟨ax_t2 (List.mem_of_getElem? (i := 212) rfl), rfl⟩, by decide⟩
theorem ax_lmw69 : ax_LMp (6, 332, 25) := ⟨⟨ax_t2 (List.mem_of_getElem? (i := 216) rfl), rfl⟩, by decide⟩
theorem ax_lmw70 : ax_LMp (6, 338, 26) := ⟨⟨ax_t2 (List.mem_of_getElem? (i := 184) rfl), rfl⟩, by decide⟩
theorem ax_lmw71 : ax_LMp (6, 341, 82) := ⟨⟨ax_t2 (List.mem_of_getElem? (i := 208) rfl), rfl⟩, by decide⟩
theorem ax_lmw72 : ax_LMp (6, 344, 161) := ⟨⟨ax_t2 (List.mem_of_getElem? (i := 203) rfl), rfl⟩, by decide⟩
theorem ax_lmw73 : ax_LMp (10, 1, 152) := ⟨⟨ax_t1 (List.mem_of_getElem? (i := 40) rfl), rfl⟩, by decide⟩
theorem ax_lmw74 : ax_LMp (11, 1, 153) := ⟨⟨ax_t1 (List.mem_of_getElem? (i := 37) rfl), rfl⟩, by decide⟩
theorem ax_lmw75 : ax_LMp (11, 66, 166) := ⟨⟨ax_t2 (List.mem_of_getElem? (i := 53) rfl), rfl⟩, by decide⟩
theorem ax_lmw76 : ax_LMp (11, 69, 155) := ⟨⟨ax_t2 (List.mem_of_getElem? (i := 39) rfl), rfl⟩, by decide⟩
theorem ax_lmw77 : ax_LMp (11, 73, 169) := ⟨⟨ax_t2 (List.mem_of_getElem? (i := 43) rfl), rfl⟩, by decide⟩
theorem ax_lmw78 : ax_LMp (11, 118, 168) := ⟨⟨ax_t1 (List.mem_of_getElem? (i := 190) rfl), rfl⟩, by decide⟩
theorem ax_lmw79 : ax_LMp (11, 123, 159) := ⟨⟨ax_t1 (List.mem_of_getElem? (i := 196) rfl), rfl⟩, by decide⟩
theorem ax_lmw80 : ax_LMp (11, 129, 156) := ⟨⟨ax_t2 (List.mem_of_getElem? (i := 35) rfl), rfl⟩, by decide⟩
theorem ax_lmw81 : ax_LMp (11, 131, 162) := ⟨⟨ax_t2 (List.mem_of_getElem? (i := 31) rfl), rfl⟩, by decide⟩
theorem ax_lmw82 : ax_LMp (11, 144, 165) := ⟨⟨ax_t2 (List.mem_of_getElem? (i := 147) rfl), rfl⟩, by decide⟩
theorem ax_lmw83 : ax_LMp (12, 300, 167) := ⟨⟨ax_t2 (List.mem_of_getElem? (i := 71) rfl), rfl⟩, by decide⟩
theorem ax_lmw84 : ax_LMp (13, 105, 170) := ⟨⟨ax_t1 (List.mem_of_getElem? (i := 193) rfl), rfl⟩, by decide⟩
theorem ax_lmw85 : ax_LMp (16, 8, 33) := ⟨⟨ax_t1 (List.mem_of_getElem? (i := 106) rfl), rfl⟩, by decide⟩
theorem ax_lmw86 : ax_LMp (16, 18, 34) := ⟨⟨ax_t2 (List.mem_of_getElem? (i := 89) rfl), rfl⟩, by decide⟩
theorem ax_lmw87 : ax_LMp (16, 23, 36) := ⟨⟨ax_t2 (List.mem_of_getElem? (i := 131) rfl), rfl⟩, by decide⟩
theorem ax_lmw88 : ax_LMp (16, 27, 37) := ⟨⟨ax_t2 (List.mem_of_getElem? (i := 155) rfl), rfl⟩, by decide⟩
theorem ax_lmw89 : ax_LMp (16, 31, 41) := ⟨⟨ax_t2 (List.mem_of_getElem? (i := 162) rfl), rfl⟩, by decide⟩
theorem ax_lmw90 : ax_LMp (16, 35, 42) := ⟨⟨ax_t3 (List.mem_of_getElem? (i := 138) rfl), rfl⟩, by decide⟩
theorem ax_lmw91 : ax_LMp (16, 39, 53) := ⟨⟨ax_t3 (List.mem_of_getElem? (i := 151) rfl), rfl⟩, by decide⟩
theorem ax_lmw92 : ax_LMp (16, 42, 55) := ⟨⟨ax_t3 (List.mem_of_getElem? (i := 171) rfl), rfl⟩, by decide⟩
theorem ax_lmw93 : ax_LMp (16, 45, 54) := ⟨⟨ax_t3 (List.mem_of_getElem? (i := 189) rfl), rfl⟩, by decide⟩
theorem ax_lmw94 : ax_LMp (16, 49, 44) := ⟨⟨ax_t3 (List.mem_of_getElem? (i := 238) rfl), rfl⟩, by decide⟩
theorem ax_lmw95 : ax_LMp (16, 52, 51) := ⟨⟨ax_t4 (List.mem_of_getElem? (i := 2) rfl), rfl⟩, by decide⟩
theorem ax_lmw96 : ax_LMp (16, 55, 52) := ⟨⟨ax_t4 (List.mem_of_getElem? (i := 11) rfl), rfl⟩, by decide⟩
theorem ax_lmw97 : ax_LMp (16, 58, 56) := ⟨⟨ax_t4 (List.mem_of_getElem? (i := 15) rfl), rfl⟩, by decide⟩
theorem ax_lmw98 : ax_LMp (16, 61, 57) := ⟨⟨ax_t4 (List.mem_of_getElem? (i := 19) rfl), rfl⟩, by decide⟩
theorem ax_lmw99 : ax_LMp (16, 64, 59) := ⟨⟨ax_t4 (List.mem_of_getElem? (i := 23) rfl), rfl⟩, by decide⟩
theorem ax_lmw100 : ax_LMp (16, 67, 45) := ⟨⟨ax_t4 (List.mem_of_getElem? (i := 36) rfl), rfl⟩, by decide⟩
theorem ax_lmw101 : ax_LMp (16, 70, 46) := ⟨⟨ax_t4 (List.mem_of_getElem? (i := 51) rfl), rfl⟩, by decide⟩
theorem ax_lmw102 : ax_LMp (16, 73, 47) := ⟨⟨ax_t4 (List.mem_of_getElem? (i := 55) rfl), rfl⟩, by decide⟩
theorem ax_lmw103 : ax_LMp (16, 76, 60) := ⟨⟨ax_t4 (List.mem_of_getElem? (i := 59) rfl), rfl⟩, by decide⟩
theorem ax_lmw104 : ax_LMp (16, 79, 43) := ⟨⟨ax_t1 (List.mem_of_getElem? (i := 89) rfl), rfl⟩, by decide⟩
theorem ax_lmw105 : ax_LMp (16, 83, 50) := ⟨⟨ax_t3 (List.mem_of_getElem? (i := 227) rfl), rfl⟩, by decide⟩
theorem ax_lmw106 : ax_LMp (16, 86, 58) := ⟨⟨ax_t3 (List.mem_of_getElem? (i := 231) rfl), rfl⟩, by decide⟩
theorem ax_lmw107 : ax_LMp (16, 89, 178) := ⟨⟨ax_t3 (List.mem_of_getElem? (i := 235) rfl), rfl⟩, by decide⟩
theorem ax_lmw108 : ax_LMp (16, 95, 179) := ⟨⟨ax_t4 (List.mem_of_getElem? (i := 33) rfl), rfl⟩, by decide⟩
theorem ax_lmw109 : ax_LMp (16, 99, 32) := ⟨⟨ax_t1 (List.mem_of_getElem? (i := 26) rfl), rfl⟩, by decide⟩
theorem ax_lmw110 : ax_LMp (16, 100, 149) := ⟨⟨ax_t1 (List.mem_of_getElem? (i := 97) rfl), rfl⟩, by decide⟩
theorem ax_lmw111 : ax_LMp (16, 104, 171) := ⟨⟨ax_t1 (List.mem_of_getElem? (i := 101) rfl), rfl⟩, by decide⟩
theorem ax_lmw112 : ax_LMp (16, 107, 173) := ⟨⟨ax_t2 (List.mem_of_getElem? (i := 128) rfl), rfl⟩, by decide⟩
theorem ax_lmw113 : ax_LMp (16, 111, 174) := ⟨⟨ax_t2 (List.mem_of_getElem? (i := 152) rfl), rfl⟩, by decide⟩
theorem ax_lmw114 : ax_LMp (16, 115, 172) := ⟨⟨ax_t2 (List.mem_of_getElem? (i := 85) rfl), rfl⟩, by decide⟩
theorem ax_lmw115 : ax_LMp (16, 117, 175) := ⟨⟨ax_t2 (List.mem_of_getElem? (i := 159) rfl), rfl⟩, by decide⟩
theorem ax_lmw116 : ax_LMp (16, 119, 176) := ⟨⟨ax_t3 (List.mem_of_getElem? (i := 135) rfl), rfl⟩, by decide⟩
theorem ax_lmw117 : ax_LMp (16, 122, 177) := ⟨⟨ax_t3 (List.mem_of_getElem? (i := 148) rfl), rfl⟩, by decide⟩
theorem ax_lmw118 : ax_LMp (16, 125, 150) := ⟨⟨ax_t3 (List.mem_of_getElem? (i := 224) rfl), rfl⟩, by decide⟩
theorem ax_LM_w : ∀ q ∈ ax_LM, ax_LMp q := List.forall_mem_cons.mpr ⟨ax_lmw0, List.forall_mem_cons.mpr ⟨ax_lmw1, List.forall_mem_cons.mpr ⟨ax_lmw2, List.forall_mem_cons.mpr ⟨ax_lmw3, List.forall_mem_cons.mpr ⟨ax_lmw4, List.forall_mem_cons.mpr ⟨ax_lmw5, List.forall_mem_cons.mpr ⟨ax_lmw6, List.forall_mem_cons.mpr ⟨ax_lmw7, List.forall_mem_cons.mpr ⟨ax_lmw8, List.forall_mem_cons.mpr ⟨ax_lmw9, List.forall_mem_cons.mpr ⟨ax_lmw10, List.forall_mem_cons.mpr ⟨ax_lmw11, List.forall_mem_cons.mpr ⟨ax_lmw12, List.forall_mem_cons.mpr ⟨ax_lmw13, List.forall_mem_cons.mpr ⟨ax_lmw14, List.forall_mem_cons.mpr ⟨ax_lmw15, List.forall_mem_cons.mpr ⟨ax_lmw16, List.forall_mem_cons.mpr ⟨ax_lmw17, List.forall_mem_cons.mpr ⟨ax_lmw18, List.forall_mem_cons.mpr ⟨ax_lmw19, List.forall_mem_cons.mpr ⟨ax_lmw20, List.forall_mem_cons.mpr ⟨ax_lmw21, List.forall_mem_cons.mpr ⟨ax_lmw22, List.forall_mem_cons.mpr ⟨ax_lmw23, List.forall_mem_cons.mpr ⟨ax_lmw24, List.forall_mem_cons.mpr ⟨ax_lmw25, List.forall_mem_cons.mpr ⟨ax_lmw26, List.forall_mem_cons.mpr ⟨ax_lmw27, List.forall_mem_cons.mpr ⟨ax_lmw28, List.forall_mem_cons.mpr ⟨ax_lmw29, List.forall_mem_cons.mpr ⟨ax_lmw30, List.forall_mem_cons.mpr ⟨ax_lmw31, List.forall_mem_cons.mpr ⟨ax_lmw32, List.forall_mem_cons.mpr ⟨ax_lmw33, List.forall_mem_cons.mpr ⟨ax_lmw34, List.forall_mem_cons.mpr ⟨ax_lmw35, List.forall_mem_cons.mpr ⟨ax_lmw36, List.forall_mem_cons.mpr ⟨ax_lmw37, List.forall_mem_cons.mpr ⟨ax_lmw38, List.forall_mem_cons.mpr ⟨ax_lmw39, List.forall_mem_cons.mpr ⟨ax_lmw40, List.forall_mem_cons.mpr ⟨ax_lmw41, List.forall_mem_cons.mpr ⟨ax_lmw42, List.forall_mem_cons.mpr ⟨ax_lmw43, List.forall_mem_cons.mpr ⟨ax_lmw44, List.forall_mem_cons.mpr ⟨ax_lmw45, List.forall_mem_cons.mpr ⟨ax_lmw46, List.forall_mem_cons.mpr ⟨ax_lmw47, List.forall_mem_cons.mpr ⟨ax_lmw48, List.forall_mem_cons.mpr ⟨ax_lmw49, List.forall_mem_cons.mpr ⟨ax_lmw50, List.forall_mem_cons.mpr ⟨ax_lmw51, List.forall_mem_cons.mpr ⟨ax_lmw52, List.forall_mem_cons.mpr ⟨ax_lmw53, List.forall_mem_cons.mpr ⟨ax_lmw54, List.forall_mem_cons.mpr ⟨ax_lmw55, List.forall_mem_cons.mpr ⟨ax_lmw56, List.forall_mem_cons.mpr ⟨ax_lmw57, List.forall_mem_cons.mpr ⟨ax_lmw58, List.forall_mem_cons.mpr ⟨ax_lmw59, List.forall_mem_cons.mpr ⟨ax_lmw60, List.forall_mem_cons.mpr ⟨ax_lmw61, List.forall_mem_cons.mpr ⟨ax_lmw62, List.forall_mem_cons.mpr ⟨ax_lmw63, List.forall_mem_cons.mpr ⟨ax_lmw64, List.forall_mem_cons.mpr ⟨ax_lmw65, List.forall_mem_cons.mpr ⟨ax_lmw66, List.forall_mem_cons.mpr ⟨ax_lmw67, List.forall_mem_cons.mpr ⟨ax_lmw68, List.forall_mem_cons.mpr ⟨ax_lmw69, List.forall_mem_cons.mpr ⟨ax_lmw70, List.forall_mem_cons.mpr ⟨ax_lmw71, List.forall_mem_cons.mpr ⟨ax_lmw72, List.forall_mem_cons.mpr ⟨ax_lmw73, List.forall_mem_cons.mpr ⟨ax_lmw74, List.forall_mem_cons.mpr ⟨ax_lmw75, List.forall_mem_cons.mpr ⟨ax_lmw76, List.forall_mem_cons.mpr ⟨ax_lmw77, List.forall_mem_cons.mpr ⟨ax_lmw78, List.forall_mem_cons.mpr ⟨ax_lmw79, List.forall_mem_cons.mpr ⟨ax_lmw80, List.forall_mem_cons.mpr ⟨ax_lmw81, List.forall_mem_cons.mpr ⟨ax_lmw82, List.forall_mem_cons.mpr ⟨ax_lmw83, List.forall_mem_cons.mpr ⟨ax_lmw84, List.forall_mem_cons.mpr ⟨ax_lmw85, List.forall_mem_cons.mpr ⟨ax_lmw86, List.forall_mem_cons.mpr ⟨ax_lmw87, List.forall_mem_cons.mpr ⟨ax_lmw88, List.forall_mem_cons.mpr ⟨ax_lmw89, List.forall_mem_cons.mpr ⟨ax_lmw90, List.forall_mem_cons.mpr ⟨ax_lmw91, List.forall_mem_cons.mpr ⟨ax_lmw92, List.forall_mem_cons.mpr ⟨ax_lmw93, List.forall_mem_cons.mpr ⟨ax_lmw94, List.forall_mem_cons.mpr ⟨ax_lmw95, List.forall_mem_cons.mpr ⟨ax_lmw96, List.forall_mem_cons.mpr ⟨ax_lmw97, List.forall_mem_cons.mpr ⟨ax_lmw98, List.forall_mem_cons.mpr ⟨ax_lmw99, List.forall_mem_cons.mpr ⟨ax_lmw100, List.forall_mem_cons.mpr ⟨ax_lmw101, List.forall_mem_cons.mpr ⟨ax_lmw102, List.forall_mem_cons.mpr ⟨ax_lmw103, List.forall_mem_cons.mpr ⟨ax_lmw104, List.forall_mem_cons.mpr ⟨ax_lmw105, List.forall_mem_cons.mpr ⟨ax_lmw106, List.forall_mem_cons.mpr ⟨ax_lmw107, List.forall_mem_cons.mpr ⟨ax_lmw108, List.forall_mem_cons.mpr ⟨ax_lmw109, List.forall_mem_cons.mpr ⟨ax_lmw110, List.forall_mem_cons.mpr ⟨ax_lmw111, List.forall_mem_cons.mpr ⟨ax_lmw112, List.forall_mem_cons.mpr ⟨ax_lmw113, List.forall_mem_cons.mpr ⟨ax_lmw114, List.forall_mem_cons.mpr ⟨ax_lmw115, List.forall_mem_cons.mpr ⟨ax_lmw116, List.forall_mem_cons.mpr ⟨ax_lmw117, List.forall_mem_cons.mpr ⟨ax_lmw118, fun _ h => absurd h List.not_mem_nil⟩⟩⟩⟩⟩⟩⟩⟩⟩⟩⟩⟩⟩⟩⟩⟩⟩⟩⟩⟩⟩⟩⟩⟩⟩⟩⟩⟩⟩⟩⟩⟩⟩⟩⟩⟩⟩⟩⟩⟩⟩⟩⟩⟩⟩⟩⟩⟩⟩⟩⟩⟩⟩⟩⟩⟩⟩⟩⟩⟩⟩⟩⟩⟩⟩⟩⟩⟩⟩⟩⟩⟩⟩⟩⟩⟩⟩⟩⟩⟩⟩⟩⟩⟩⟩⟩⟩⟩⟩⟩⟩⟩⟩⟩⟩⟩⟩⟩⟩⟩⟩⟩⟩⟩⟩⟩⟩⟩⟩⟩⟩⟩⟩⟩⟩⟩⟩⟩⟩
def ax_gcN : MethodName := ⟨"java/lang/Object", "getClass", "()Ljava/lang/Class;"⟩
def ax_oN (f : Nat) : MethodName := match f with
  | 1 => objectInit
  | 2 => arraycopyName
  | 3 => ax_gcN
  | 4 => Lib.Math.max.name
  | _ => Lib.Math.min.name
def ax_LOp (q : Nat × Nat × Nat × Nat) : Prop := ax_gw (.methodLink (ax_on q.1) q.2.1 (ax_oN q.2.2.1))
theorem ax_low0 : ax_LOp (0, 3, 1, 91) := ⟨ax_t1 (List.mem_of_getElem? (i := 65) rfl), rfl⟩
theorem ax_low1 : ax_LOp (1, 1, 1, 707) := ⟨ax_t3 (List.mem_of_getElem? (i := 201) rfl), rfl⟩
theorem ax_low2 : ax_LOp (1, 20, 5, 675) := ⟨ax_t3 (List.mem_of_getElem? (i := 169) rfl), rfl⟩
theorem ax_low3 : ax_LOp (2, 3, 1, 561) := ⟨ax_t3 (List.mem_of_getElem? (i := 55) rfl), rfl⟩
theorem ax_low4 : ax_LOp (3, 3, 1, 533) := ⟨ax_t3 (List.mem_of_getElem? (i := 27) rfl), rfl⟩
theorem ax_low5 : ax_LOp (4, 3, 1, 494) := ⟨ax_t2 (List.mem_of_getElem? (i := 228) rfl), rfl⟩
theorem ax_low6 : ax_LOp (5, 1, 1, 249) := ⟨ax_t1 (List.mem_of_getElem? (i := 223) rfl), rfl⟩
theorem ax_low7 : ax_LOp (6, 3, 1, 55) := ⟨ax_t1 (List.mem_of_getElem? (i := 29) rfl), rfl⟩
theorem ax_low8 : ax_LOp (9, 1, 1, 69) := ⟨ax_t1 (List.mem_of_getElem? (i := 43) rfl), rfl⟩
theorem ax_low9 : ax_LOp (11, 79, 4, 349) := ⟨ax_t2 (List.mem_of_getElem? (i := 83) rfl), rfl⟩
theorem ax_low10 : ax_LOp (11, 112, 2, 417) := ⟨ax_t2 (List.mem_of_getElem? (i := 151) rfl), rfl⟩
theorem ax_low11 : ax_LOp (12, 86, 3, 322) := ⟨ax_t2 (List.mem_of_getElem? (i := 56) rfl), rfl⟩
theorem ax_low12 : ax_LOp (12, 150, 2, 346) := ⟨ax_t2 (List.mem_of_getElem? (i := 80) rfl), rfl⟩
theorem ax_low13 : ax_LOp (12, 304, 5, 343) := ⟨ax_t2 (List.mem_of_getElem? (i := 77) rfl), rfl⟩
theorem ax_low14 : ax_LOp (14, 194, 4, 312) := ⟨ax_t2 (List.mem_of_getElem? (i := 46) rfl), rfl⟩
theorem ax_LO_w : ∀ q ∈ ax_LO, ax_LOp q := List.forall_mem_cons.mpr ⟨ax_low0, List.forall_mem_cons.mpr ⟨ax_low1, List.forall_mem_cons.mpr ⟨ax_low2, List.forall_mem_cons.mpr ⟨ax_low3, List.forall_mem_cons.mpr ⟨ax_low4, List.forall_mem_cons.mpr ⟨ax_low5, List.forall_mem_cons.mpr ⟨ax_low6, List.forall_mem_cons.mpr ⟨ax_low7, List.forall_mem_cons.mpr ⟨ax_low8, List.forall_mem_cons.mpr ⟨ax_low9, List.forall_mem_cons.mpr ⟨ax_low10, List.forall_mem_cons.mpr ⟨ax_low11, List.forall_mem_cons.mpr ⟨ax_low12, List.forall_mem_cons.mpr ⟨ax_low13, List.forall_mem_cons.mpr ⟨ax_low14, fun _ h => absurd h List.not_mem_nil⟩⟩⟩⟩⟩⟩⟩⟩⟩⟩⟩⟩⟩⟩⟩
def ax_LNp (q : Nat × Nat × Nat × Nat × Nat × Nat × Nat) : Prop := ax_gw (.classLink (ax_on q.1) q.2.1 (ax_kn q.2.2.1)) ∧ ax_gw (.instantiable (ax_kn q.2.2.1) q.2.2.2.1) ∧ ax_gw (.initialized (ax_kn q.2.2.1)) ∧ q.2.2.1 < 9 ∧ q.2.2.2.1 = ax_N q.2.2.1
theorem ax_lnw0 : ax_LNp (0, 9, 8, 3, 92, 59, 30) := ⟨⟨ax_t1 (List.mem_of_getElem? (i := 66) rfl), rfl⟩, ⟨ax_t1 (List.mem_of_getElem? (i := 33) rfl), rfl⟩, ⟨ax_t1 (List.mem_of_getElem? (i := 4) rfl), rfl⟩, by decide, rfl⟩
theorem ax_lnw1 : ax_LNp (0, 32, 1, 3, 408, 703, 49) := ⟨⟨ax_t2 (List.mem_of_getElem? (i := 142) rfl), rfl⟩, ⟨ax_t3 (List.mem_of_getElem? (i := 197) rfl), rfl⟩, ⟨ax_t1 (List.mem_of_getElem? (i := 23) rfl), rfl⟩, by decide, rfl⟩
theorem ax_lnw2 : ax_LNp (3, 19, 2, 7, 534, 557, 48) := ⟨⟨ax_t3 (List.mem_of_getElem? (i := 28) rfl), rfl⟩, ⟨ax_t3 (List.mem_of_getElem? (i := 51) rfl), rfl⟩, ⟨ax_t1 (List.mem_of_getElem? (i := 22) rfl), rfl⟩, by decide, rfl⟩
theorem ax_lnw3 : ax_LNp (4, 22, 8, 3, 495, 59, 30) := ⟨⟨ax_t2 (List.mem_of_getElem? (i := 229) rfl), rfl⟩, ⟨ax_t1 (List.mem_of_getElem? (i := 33) rfl), rfl⟩, ⟨ax_t1 (List.mem_of_getElem? (i := 4) rfl), rfl⟩, by decide, rfl⟩
theorem ax_lnw4 : ax_LNp (4, 32, 3, 3, 456, 523, 47) := ⟨⟨ax_t2 (List.mem_of_getElem? (i := 190) rfl), rfl⟩, ⟨ax_t3 (List.mem_of_getElem? (i := 17) rfl), rfl⟩, ⟨ax_t1 (List.mem_of_getElem? (i := 21) rfl), rfl⟩, by decide, rfl⟩
theorem ax_lnw5 : ax_LNp (5, 8, 5, 10, 528, 245, 39) := ⟨⟨ax_t3 (List.mem_of_getElem? (i := 22) rfl), rfl⟩, ⟨ax_t1 (List.mem_of_getElem? (i := 219) rfl), rfl⟩, ⟨ax_t1 (List.mem_of_getElem? (i := 13) rfl), rfl⟩, by decide, rfl⟩
theorem ax_lnw6 : ax_LNp (6, 9, 8, 3, 58, 59, 30) := ⟨⟨ax_t1 (List.mem_of_getElem? (i := 32) rfl), rfl⟩, ⟨ax_t1 (List.mem_of_getElem? (i := 33) rfl), rfl⟩, ⟨ax_t1 (List.mem_of_getElem? (i := 4) rfl), rfl⟩, by decide, rfl⟩
theorem ax_lnw7 : ax_LNp (6, 28, 0, 1, 86, 87, 31) := ⟨⟨ax_t1 (List.mem_of_getElem? (i := 60) rfl), rfl⟩, ⟨ax_t1 (List.mem_of_getElem? (i := 61) rfl), rfl⟩, ⟨ax_t1 (List.mem_of_getElem? (i := 5) rfl), rfl⟩, by decide, rfl⟩
theorem ax_lnw8 : ax_LNp (6, 54, 5, 10, 244, 245, 39) := ⟨⟨ax_t1 (List.mem_of_getElem? (i := 218) rfl), rfl⟩, ⟨ax_t1 (List.mem_of_getElem? (i := 219) rfl), rfl⟩, ⟨ax_t1 (List.mem_of_getElem? (i := 13) rfl), rfl⟩, by decide, rfl⟩
theorem ax_lnw9 : ax_LNp (6, 153, 4, 5, 226, 490, 46) := ⟨⟨ax_t1 (List.mem_of_getElem? (i := 200) rfl), rfl⟩, ⟨ax_t2 (List.mem_of_getElem? (i := 224) rfl), rfl⟩, ⟨ax_t1 (List.mem_of_getElem? (i := 20) rfl), rfl⟩, by decide, rfl⟩
theorem ax_lnw10 : ax_LNp (16, 9, 6, 5, 50, 51, 27) := ⟨⟨ax_t1 (List.mem_of_getElem? (i := 24) rfl), rfl⟩, ⟨ax_t1 (List.mem_of_getElem? (i := 25) rfl), rfl⟩, ⟨ax_t1 (List.mem_of_getElem? (i := 1) rfl), rfl⟩, by decide, rfl⟩
theorem ax_LN_w : ∀ q ∈ ax_LN, ax_LNp q := List.forall_mem_cons.mpr ⟨ax_lnw0, List.forall_mem_cons.mpr ⟨ax_lnw1, List.forall_mem_cons.mpr ⟨ax_lnw2, List.forall_mem_cons.mpr ⟨ax_lnw3, List.forall_mem_cons.mpr ⟨ax_lnw4, List.forall_mem_cons.mpr ⟨ax_lnw5, List.forall_mem_cons.mpr ⟨ax_lnw6, List.forall_mem_cons.mpr ⟨ax_lnw7, List.forall_mem_cons.mpr ⟨ax_lnw8, List.forall_mem_cons.mpr ⟨ax_lnw9, List.forall_mem_cons.mpr ⟨ax_lnw10, fun _ h => absurd h List.not_mem_nil⟩⟩⟩⟩⟩⟩⟩⟩⟩⟩⟩
def ax_an (k : Nat) : String := bif Nat.beq k 23 then "java/lang/Object" else "PipelineRunner$Job"
def ax_LAp (q : Nat × Nat × Nat × Nat × Nat) : Prop := ax_gw (.classLink (ax_on q.1) q.2.1 (ax_an q.2.2.1)) ∧ (q.2.2.1 = 23 ∨ q.2.2.1 = 24)
theorem ax_law0 : ax_LAp (3, 19, 24, 534, 85) := ⟨⟨ax_t3 (List.mem_of_getElem? (i := 28) rfl), rfl⟩, Or.inr rfl⟩
theorem ax_law1 : ax_LAp (6, 22, 24, 84, 85) := ⟨⟨ax_t1 (List.mem_of_getElem? (i := 58) rfl), rfl⟩, Or.inr rfl⟩
theorem ax_law2 : ax_LAp (11, 7, 23, 350, 341) := ⟨⟨ax_t2 (List.mem_of_getElem? (i := 84) rfl), rfl⟩, Or.inl rfl⟩
theorem ax_law3 : ax_LAp (12, 2, 23, 342, 341) := ⟨⟨ax_t2 (List.mem_of_getElem? (i := 76) rfl), rfl⟩, Or.inl rfl⟩
theorem ax_LA_w : ∀ q ∈ ax_LA, ax_LAp q := List.forall_mem_cons.mpr ⟨ax_law0, List.forall_mem_cons.mpr ⟨ax_law1, List.forall_mem_cons.mpr ⟨ax_law2, List.forall_mem_cons.mpr ⟨ax_law3, fun _ h => absurd h List.not_mem_nil⟩⟩⟩⟩
def ax_LCp (q : Nat × Nat × Nat × Nat) : Prop := ax_gw (.classLink (ax_on q.1) q.2.1 (ax_kn q.2.2.1)) ∧ q.2.2.1 < 9
theorem ax_lcw0 : ax_LCp (0, 32, 1, 408) := ⟨⟨ax_t2 (List.mem_of_getElem? (i := 142) rfl), rfl⟩, by decide⟩
theorem ax_lcw1 : ax_LCp (4, 32, 3, 456) := ⟨⟨ax_t2 (List.mem_of_getElem? (i := 190) rfl), rfl⟩, by decide⟩
theorem ax_lcw2 : ax_LCp (6, 22, 2, 84) := ⟨⟨ax_t1 (List.mem_of_getElem? (i := 58) rfl), rfl⟩, by decide⟩
theorem ax_lcw3 : ax_LCp (6, 54, 5, 244) := ⟨⟨ax_t1 (List.mem_of_getElem? (i := 218) rfl), rfl⟩, by decide⟩
theorem ax_lcw4 : ax_LCp (6, 153, 4, 226) := ⟨⟨ax_t1 (List.mem_of_getElem? (i := 200) rfl), rfl⟩, by decide⟩
theorem ax_lcw5 : ax_LCp (6, 200, 3, 795) := ⟨⟨ax_t4 (List.mem_of_getElem? (i := 49) rfl), rfl⟩, by decide⟩
theorem ax_lcw6 : ax_LCp (6, 274, 1, 778) := ⟨⟨ax_t4 (List.mem_of_getElem? (i := 32) rfl), rfl⟩, by decide⟩
theorem ax_LC_w : ∀ q ∈ ax_LC, ax_LCp q := List.forall_mem_cons.mpr ⟨ax_lcw0, List.forall_mem_cons.mpr ⟨ax_lcw1, List.forall_mem_cons.mpr ⟨ax_lcw2, List.forall_mem_cons.mpr ⟨ax_lcw3, List.forall_mem_cons.mpr ⟨ax_lcw4, List.forall_mem_cons.mpr ⟨ax_lcw5, List.forall_mem_cons.mpr ⟨ax_lcw6, fun _ h => absurd h List.not_mem_nil⟩⟩⟩⟩⟩⟩⟩
def ax_LDp (q : Nat × Nat × Int32 × Nat) : Prop := ax_gw (.constant (ax_on q.1) q.2.1 q.2.2.1)
theorem ax_ldw0 : ax_LDp (8, 265, 1431655765, 391) := ⟨ax_t2 (List.mem_of_getElem? (i := 125) rfl), rfl⟩
theorem ax_ldw1 : ax_LDp (8, 266, 858993459, 392) := ⟨ax_t2 (List.mem_of_getElem? (i := 126) rfl), rfl⟩
theorem ax_ldw2 : ax_LDp (8, 267, 252645135, 393) := ⟨ax_t2 (List.mem_of_getElem? (i := 127) rfl), rfl⟩
theorem ax_ldw3 : ax_LDp (14, 200, 2147483639, 315) := ⟨ax_t2 (List.mem_of_getElem? (i := 49) rfl), rfl⟩
theorem ax_ldw4 : ax_LDp (16, 7, 2147483647, 126) := ⟨ax_t1 (List.mem_of_getElem? (i := 100) rfl), rfl⟩
theorem ax_LD_w : ∀ q ∈ ax_LD, ax_LDp q := List.forall_mem_cons.mpr ⟨ax_ldw0, List.forall_mem_cons.mpr ⟨ax_ldw1, List.forall_mem_cons.mpr ⟨ax_ldw2, List.forall_mem_cons.mpr ⟨ax_ldw3, List.forall_mem_cons.mpr ⟨ax_ldw4, fun _ h => absurd h List.not_mem_nil⟩⟩⟩⟩⟩
end AXLW
