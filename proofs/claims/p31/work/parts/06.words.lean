/-! The words of methods stand in the tables (by their places in the sublists). Printed by wip/whole/gen06.py. -/
section AXCW
def ax_Cw (y : Nat) : Cond := match ax_hh y with
  | [] => .code (ax_y y) (ax_b y) (ax_L y) (ax_ret y)
  | h => .codeWith (ax_y y) (ax_b y) (ax_L y) (ax_ret y) h
/-- 0 virtual, 1 static, 2 a constructor -/
def ax_op (y : Nat) : Nat := [2, 0, 0, 0, 2, 0, 2, 0, 0, 0, 2, 0, 0, 0, 0, 0, 0, 0, 2, 0, 0, 0, 0, 0, 0, 0, 0, 2, 0, 0, 1, 0, 2, 0, 0, 1, 0, 0, 1, 1, 1, 0, 0, 0, 0, 0, 0, 0, 1, 1, 0, 0, 0, 0, 0, 0, 0, 0, 0, 0, 0, 0, 0, 0, 0, 0, 0, 0, 0, 0, 1, 0, 0, 0, 0, 0, 0, 0, 0, 0, 0, 0, 0, 1, 1, 1, 1, 1, 1, 1, 1, 1, 1, 1, 1, 1, 1, 1, 1, 1, 1, 1, 1, 1, 1, 1, 1, 1, 1, 1, 1, 1, 1, 1, 1, 1, 1, 1, 1, 1, 1, 1, 1, 1, 1, 1, 1, 1, 1, 1, 1, 1, 1, 1, 1, 1, 1, 1, 1, 1, 1, 1, 1, 1, 1, 1, 1, 1, 1, 1, 1, 1, 2, 2, 2, 0, 0, 0, 0, 0, 0, 0, 0, 0, 0, 0, 1, 1, 1, 1, 1, 1, 1, 1, 1, 1, 1, 1, 1, 1, 1, 1, 1, 1, 1, 1, 1, 1, 1, 1, 1, 1, 1, 1, 1].getD y 9
def ax_na (y : Nat) : Nat := [0, 2, 2, 1, 3, 2, 2, 0, 1, 1, 2, 0, 1, 0, 0, 0, 0, 0, 3, 1, 0, 1, 1, 0, 0, 0, 0, 3, 0, 1, 2, 1, 0, 2, 2, 2, 3, 4, 2, 2, 2, 4, 1, 0, 1, 3, 3, 3, 2, 2, 0, 1, 1, 1, 2, 1, 1, 1, 0, 1, 2, 1, 1, 2, 3, 1, 1, 1, 1, 0, 1, 0, 2, 1, 1, 1, 1, 1, 1, 1, 1, 0, 0, 2, 2, 2, 2, 2, 2, 2, 2, 2, 2, 2, 2, 2, 2, 2, 2, 2, 2, 2, 2, 2, 2, 2, 2, 2, 2, 2, 2, 2, 2, 2, 2, 2, 2, 2, 2, 2, 2, 2, 2, 2, 2, 2, 2, 2, 2, 2, 2, 2, 2, 2, 2, 2, 2, 2, 2, 2, 2, 2, 2, 2, 2, 2, 2, 2, 2, 2, 4, 1, 0, 0, 0, 1, 0, 0, 0, 1, 1, 2, 3, 1, 1, 2, 2, 3, 2, 3, 3, 3, 3, 4, 3, 5, 2, 3, 3, 5, 2, 2, 2, 2, 2, 2, 2, 2, 2, 2, 2, 2, 2, 2, 2].getD y 0
def ax_gw (w : Cond) : Prop := w ∈ lw_tbl ∧ goodWord w = true
theorem ax_t0 {w : Cond} (h : w ∈ k2_sels lw_privs) : w ∈ lw_tbl := List.mem_append_left _ h
theorem ax_t1 {w : Cond} (h : w ∈ tables_1_1) : w ∈ lw_tbl := List.mem_append_right _ (show w ∈ tables_1 from List.mem_append_left _ h)
theorem ax_t2 {w : Cond} (h : w ∈ tables_1_2) : w ∈ lw_tbl := List.mem_append_right _ (show w ∈ tables_1 from List.mem_append_right _ (List.mem_append_left _ h))
theorem ax_t3 {w : Cond} (h : w ∈ tables_1_3) : w ∈ lw_tbl := List.mem_append_right _ (show w ∈ tables_1 from List.mem_append_right _ (List.mem_append_right _ (List.mem_append_left _ h)))
theorem ax_t4 {w : Cond} (h : w ∈ tables_1_4) : w ∈ lw_tbl := List.mem_append_right _ (show w ∈ tables_1 from List.mem_append_right _ (List.mem_append_right _ (List.mem_append_right _ (h))))
def ax_mwP (y : Nat) : Prop := ax_gw (ax_Cw y) ∧ ax_gw (.initialized (ax_y y).cls) ∧ ax_gw (bif Nat.beq (ax_op y) 1 then .static (ax_y y) else .instanceMethod (ax_y y)) ∧ (ax_op y = 0 → ax_gw (.selects (ax_y y).cls (ax_y y) (ax_y y)) ∧ ax_kn (ax_ck y) = (ax_y y).cls ∧ ax_hh y = []) ∧ (ax_op y = 2 → (ax_y y).name = "<init>" ∧ ax_ret y = none ∧ ax_hh y = [])
set_option maxRecDepth 20000
theorem ax_mw0 : ax_mwP 0 := ⟨⟨ax_t1 (List.mem_of_getElem? (i := 64) rfl), rfl⟩, ⟨ax_t1 (List.mem_of_getElem? (i := 5) rfl), rfl⟩, ⟨ax_t1 (List.mem_of_getElem? (i := 63) rfl), rfl⟩, fun h => absurd h (by decide), fun _ => ⟨rfl, rfl, rfl⟩⟩
theorem ax_mw1 : ax_mwP 1 := ⟨⟨ax_t3 (List.mem_of_getElem? (i := 164) rfl), rfl⟩, ⟨ax_t1 (List.mem_of_getElem? (i := 5) rfl), rfl⟩, ⟨ax_t3 (List.mem_of_getElem? (i := 162) rfl), rfl⟩, fun _ => ⟨⟨ax_t3 (List.mem_of_getElem? (i := 163) rfl), rfl⟩, rfl, rfl⟩, fun h => absurd h (by decide)⟩
theorem ax_mw2 : ax_mwP 2 := ⟨⟨ax_t3 (List.mem_of_getElem? (i := 196) rfl), rfl⟩, ⟨ax_t1 (List.mem_of_getElem? (i := 5) rfl), rfl⟩, ⟨ax_t3 (List.mem_of_getElem? (i := 194) rfl), rfl⟩, fun _ => ⟨⟨ax_t3 (List.mem_of_getElem? (i := 195) rfl), rfl⟩, rfl, rfl⟩, fun h => absurd h (by decide)⟩
theorem ax_mw3 : ax_mwP 3 := ⟨⟨ax_t2 (List.mem_of_getElem? (i := 139) rfl), rfl⟩, ⟨ax_t1 (List.mem_of_getElem? (i := 5) rfl), rfl⟩, ⟨ax_t2 (List.mem_of_getElem? (i := 137) rfl), rfl⟩, fun _ => ⟨⟨ax_t2 (List.mem_of_getElem? (i := 138) rfl), rfl⟩, rfl, rfl⟩, fun h => absurd h (by decide)⟩
theorem ax_mw4 : ax_mwP 4 := ⟨⟨ax_t3 (List.mem_of_getElem? (i := 200) rfl), rfl⟩, ⟨ax_t1 (List.mem_of_getElem? (i := 23) rfl), rfl⟩, ⟨ax_t3 (List.mem_of_getElem? (i := 199) rfl), rfl⟩, fun h => absurd h (by decide), fun _ => ⟨rfl, rfl, rfl⟩⟩
theorem ax_mw5 : ax_mwP 5 := ⟨⟨ax_t3 (List.mem_of_getElem? (i := 168) rfl), rfl⟩, ⟨ax_t1 (List.mem_of_getElem? (i := 23) rfl), rfl⟩, ⟨ax_t3 (List.mem_of_getElem? (i := 166) rfl), rfl⟩, fun _ => ⟨⟨ax_t3 (List.mem_of_getElem? (i := 167) rfl), rfl⟩, rfl, rfl⟩, fun h => absurd h (by decide)⟩
theorem ax_mw6 : ax_mwP 6 := ⟨⟨ax_t3 (List.mem_of_getElem? (i := 54) rfl), rfl⟩, ⟨ax_t1 (List.mem_of_getElem? (i := 22) rfl), rfl⟩, ⟨ax_t3 (List.mem_of_getElem? (i := 53) rfl), rfl⟩, fun h => absurd h (by decide), fun _ => ⟨rfl, rfl, rfl⟩⟩
theorem ax_mw7 : ax_mwP 7 := ⟨⟨ax_t3 (List.mem_of_getElem? (i := 106) rfl), rfl⟩, ⟨ax_t1 (List.mem_of_getElem? (i := 22) rfl), rfl⟩, ⟨ax_t3 (List.mem_of_getElem? (i := 104) rfl), rfl⟩, fun _ => ⟨⟨ax_t3 (List.mem_of_getElem? (i := 105) rfl), rfl⟩, rfl, rfl⟩, fun h => absurd h (by decide)⟩
theorem ax_mw8 : ax_mwP 8 := ⟨⟨ax_t3 (List.mem_of_getElem? (i := 122) rfl), rfl⟩, ⟨ax_t1 (List.mem_of_getElem? (i := 22) rfl), rfl⟩, ⟨ax_t3 (List.mem_of_getElem? (i := 120) rfl), rfl⟩, fun _ => ⟨⟨ax_t3 (List.mem_of_getElem? (i := 121) rfl), rfl⟩, rfl, rfl⟩, fun h => absurd h (by decide)⟩
theorem ax_mw9 : ax_mwP 9 := ⟨⟨ax_t2 (List.mem_of_getElem? (i := 198) rfl), rfl⟩, ⟨ax_t1 (List.mem_of_getElem? (i := 22) rfl), rfl⟩, ⟨ax_t2 (List.mem_of_getElem? (i := 196) rfl), rfl⟩, fun _ => ⟨⟨ax_t2 (List.mem_of_getElem? (i := 197) rfl), rfl⟩, rfl, rfl⟩, fun h => absurd h (by decide)⟩
theorem ax_mw10 : ax_mwP 10 := ⟨⟨ax_t3 (List.mem_of_getElem? (i := 26) rfl), rfl⟩, ⟨ax_t1 (List.mem_of_getElem? (i := 21) rfl), rfl⟩, ⟨ax_t3 (List.mem_of_getElem? (i := 25) rfl), rfl⟩, fun h => absurd h (by decide), fun _ => ⟨rfl, rfl, rfl⟩⟩
theorem ax_mw11 : ax_mwP 11 := ⟨⟨ax_t3 (List.mem_of_getElem? (i := 46) rfl), rfl⟩, ⟨ax_t1 (List.mem_of_getElem? (i := 21) rfl), rfl⟩, ⟨ax_t3 (List.mem_of_getElem? (i := 44) rfl), rfl⟩, fun _ => ⟨⟨ax_t3 (List.mem_of_getElem? (i := 45) rfl), rfl⟩, rfl, rfl⟩, fun h => absurd h (by decide)⟩
theorem ax_mw12 : ax_mwP 12 := ⟨⟨ax_t2 (List.mem_of_getElem? (i := 223) rfl), rfl⟩, ⟨ax_t1 (List.mem_of_getElem? (i := 21) rfl), rfl⟩, ⟨ax_t2 (List.mem_of_getElem? (i := 221) rfl), rfl⟩, fun _ => ⟨⟨ax_t2 (List.mem_of_getElem? (i := 222) rfl), rfl⟩, rfl, rfl⟩, fun h => absurd h (by decide)⟩
theorem ax_mw13 : ax_mwP 13 := ⟨⟨ax_t3 (List.mem_of_getElem? (i := 102) rfl), rfl⟩, ⟨ax_t1 (List.mem_of_getElem? (i := 21) rfl), rfl⟩, ⟨ax_t3 (List.mem_of_getElem? (i := 100) rfl), rfl⟩, fun _ => ⟨⟨ax_t3 (List.mem_of_getElem? (i := 101) rfl), rfl⟩, rfl, rfl⟩, fun h => absurd h (by decide)⟩
theorem ax_mw14 : ax_mwP 14 := ⟨⟨ax_t3 (List.mem_of_getElem? (i := 118) rfl), rfl⟩, ⟨ax_t1 (List.mem_of_getElem? (i := 21) rfl), rfl⟩, ⟨ax_t3 (List.mem_of_getElem? (i := 116) rfl), rfl⟩, fun _ => ⟨⟨ax_t3 (List.mem_of_getElem? (i := 117) rfl), rfl⟩, rfl, rfl⟩, fun h => absurd h (by decide)⟩
theorem ax_mw15 : ax_mwP 15 := ⟨⟨ax_t3 (List.mem_of_getElem? (i := 183) rfl), rfl⟩, ⟨ax_t1 (List.mem_of_getElem? (i := 21) rfl), rfl⟩, ⟨ax_t3 (List.mem_of_getElem? (i := 181) rfl), rfl⟩, fun _ => ⟨⟨ax_t3 (List.mem_of_getElem? (i := 182) rfl), rfl⟩, rfl, rfl⟩, fun h => absurd h (by decide)⟩
theorem ax_mw16 : ax_mwP 16 := ⟨⟨ax_t3 (List.mem_of_getElem? (i := 223) rfl), rfl⟩, ⟨ax_t1 (List.mem_of_getElem? (i := 21) rfl), rfl⟩, ⟨ax_t3 (List.mem_of_getElem? (i := 221) rfl), rfl⟩, fun _ => ⟨⟨ax_t3 (List.mem_of_getElem? (i := 222) rfl), rfl⟩, rfl, rfl⟩, fun h => absurd h (by decide)⟩
theorem ax_mw17 : ax_mwP 17 := ⟨⟨ax_t2 (List.mem_of_getElem? (i := 194) rfl), rfl⟩, ⟨ax_t1 (List.mem_of_getElem? (i := 21) rfl), rfl⟩, ⟨ax_t2 (List.mem_of_getElem? (i := 192) rfl), rfl⟩, fun _ => ⟨⟨ax_t2 (List.mem_of_getElem? (i := 193) rfl), rfl⟩, rfl, rfl⟩, fun h => absurd h (by decide)⟩
theorem ax_mw18 : ax_mwP 18 := ⟨⟨ax_t2 (List.mem_of_getElem? (i := 227) rfl), rfl⟩, ⟨ax_t1 (List.mem_of_getElem? (i := 20) rfl), rfl⟩, ⟨ax_t2 (List.mem_of_getElem? (i := 226) rfl), rfl⟩, fun h => absurd h (by decide), fun _ => ⟨rfl, rfl, rfl⟩⟩
theorem ax_mw19 : ax_mwP 19 := ⟨⟨ax_t3 (List.mem_of_getElem? (i := 16) rfl), rfl⟩, ⟨ax_t1 (List.mem_of_getElem? (i := 20) rfl), rfl⟩, ⟨ax_t3 (List.mem_of_getElem? (i := 14) rfl), rfl⟩, fun _ => ⟨⟨ax_t3 (List.mem_of_getElem? (i := 15) rfl), rfl⟩, rfl, rfl⟩, fun h => absurd h (by decide)⟩
theorem ax_mw20 : ax_mwP 20 := ⟨⟨ax_t3 (List.mem_of_getElem? (i := 93) rfl), rfl⟩, ⟨ax_t1 (List.mem_of_getElem? (i := 20) rfl), rfl⟩, ⟨ax_t3 (List.mem_of_getElem? (i := 91) rfl), rfl⟩, fun _ => ⟨⟨ax_t3 (List.mem_of_getElem? (i := 92) rfl), rfl⟩, rfl, rfl⟩, fun h => absurd h (by decide)⟩
theorem ax_mw21 : ax_mwP 21 := ⟨⟨ax_t3 (List.mem_of_getElem? (i := 97) rfl), rfl⟩, ⟨ax_t1 (List.mem_of_getElem? (i := 20) rfl), rfl⟩, ⟨ax_t3 (List.mem_of_getElem? (i := 95) rfl), rfl⟩, fun _ => ⟨⟨ax_t3 (List.mem_of_getElem? (i := 96) rfl), rfl⟩, rfl, rfl⟩, fun h => absurd h (by decide)⟩
theorem ax_mw22 : ax_mwP 22 := ⟨⟨ax_t3 (List.mem_of_getElem? (i := 114) rfl), rfl⟩, ⟨ax_t1 (List.mem_of_getElem? (i := 20) rfl), rfl⟩, ⟨ax_t3 (List.mem_of_getElem? (i := 112) rfl), rfl⟩, fun _ => ⟨⟨ax_t3 (List.mem_of_getElem? (i := 113) rfl), rfl⟩, rfl, rfl⟩, fun h => absurd h (by decide)⟩
theorem ax_mw23 : ax_mwP 23 := ⟨⟨ax_t3 (List.mem_of_getElem? (i := 130) rfl), rfl⟩, ⟨ax_t1 (List.mem_of_getElem? (i := 20) rfl), rfl⟩, ⟨ax_t3 (List.mem_of_getElem? (i := 128) rfl), rfl⟩, fun _ => ⟨⟨ax_t3 (List.mem_of_getElem? (i := 129) rfl), rfl⟩, rfl, rfl⟩, fun h => absurd h (by decide)⟩
theorem ax_mw24 : ax_mwP 24 := ⟨⟨ax_t3 (List.mem_of_getElem? (i := 134) rfl), rfl⟩, ⟨ax_t1 (List.mem_of_getElem? (i := 20) rfl), rfl⟩, ⟨ax_t3 (List.mem_of_getElem? (i := 132) rfl), rfl⟩, fun _ => ⟨⟨ax_t3 (List.mem_of_getElem? (i := 133) rfl), rfl⟩, rfl, rfl⟩, fun h => absurd h (by decide)⟩
theorem ax_mw25 : ax_mwP 25 := ⟨⟨ax_t2 (List.mem_of_getElem? (i := 219) rfl), rfl⟩, ⟨ax_t1 (List.mem_of_getElem? (i := 20) rfl), rfl⟩, ⟨ax_t2 (List.mem_of_getElem? (i := 217) rfl), rfl⟩, fun _ => ⟨⟨ax_t2 (List.mem_of_getElem? (i := 218) rfl), rfl⟩, rfl, rfl⟩, fun h => absurd h (by decide)⟩
theorem ax_mw26 : ax_mwP 26 := ⟨⟨ax_t2 (List.mem_of_getElem? (i := 187) rfl), rfl⟩, ⟨ax_t1 (List.mem_of_getElem? (i := 20) rfl), rfl⟩, ⟨ax_t2 (List.mem_of_getElem? (i := 185) rfl), rfl⟩, fun _ => ⟨⟨ax_t2 (List.mem_of_getElem? (i := 186) rfl), rfl⟩, rfl, rfl⟩, fun h => absurd h (by decide)⟩
theorem ax_mw27 : ax_mwP 27 := ⟨⟨ax_t1 (List.mem_of_getElem? (i := 222) rfl), rfl⟩, ⟨ax_t1 (List.mem_of_getElem? (i := 13) rfl), rfl⟩, ⟨ax_t1 (List.mem_of_getElem? (i := 221) rfl), rfl⟩, fun h => absurd h (by decide), fun _ => ⟨rfl, rfl, rfl⟩⟩
theorem ax_mw28 : ax_mwP 28 := ⟨⟨ax_t3 (List.mem_of_getElem? (i := 21) rfl), rfl⟩, ⟨ax_t1 (List.mem_of_getElem? (i := 13) rfl), rfl⟩, ⟨ax_t3 (List.mem_of_getElem? (i := 19) rfl), rfl⟩, fun _ => ⟨⟨ax_t3 (List.mem_of_getElem? (i := 20) rfl), rfl⟩, rfl, rfl⟩, fun h => absurd h (by decide)⟩
theorem ax_mw29 : ax_mwP 29 := ⟨⟨ax_t3 (List.mem_of_getElem? (i := 50) rfl), rfl⟩, ⟨ax_t1 (List.mem_of_getElem? (i := 13) rfl), rfl⟩, ⟨ax_t3 (List.mem_of_getElem? (i := 48) rfl), rfl⟩, fun _ => ⟨⟨ax_t3 (List.mem_of_getElem? (i := 49) rfl), rfl⟩, rfl, rfl⟩, fun h => absurd h (by decide)⟩
theorem ax_mw30 : ax_mwP 30 := ⟨⟨ax_t1 (List.mem_of_getElem? (i := 99) rfl), rfl⟩, ⟨ax_t1 (List.mem_of_getElem? (i := 0) rfl), rfl⟩, ⟨ax_t1 (List.mem_of_getElem? (i := 98) rfl), rfl⟩, fun h => absurd h (by decide), fun h => absurd h (by decide)⟩
theorem ax_mw31 : ax_mwP 31 := ⟨⟨ax_t2 (List.mem_of_getElem? (i := 116) rfl), rfl⟩, ⟨ax_t1 (List.mem_of_getElem? (i := 13) rfl), rfl⟩, ⟨ax_t2 (List.mem_of_getElem? (i := 114) rfl), rfl⟩, fun _ => ⟨⟨ax_t2 (List.mem_of_getElem? (i := 115) rfl), rfl⟩, rfl, rfl⟩, fun h => absurd h (by decide)⟩
theorem ax_mw32 : ax_mwP 32 := ⟨⟨ax_t1 (List.mem_of_getElem? (i := 28) rfl), rfl⟩, ⟨ax_t1 (List.mem_of_getElem? (i := 1) rfl), rfl⟩, ⟨ax_t1 (List.mem_of_getElem? (i := 27) rfl), rfl⟩, fun h => absurd h (by decide), fun _ => ⟨rfl, rfl, rfl⟩⟩
theorem ax_mw33 : ax_mwP 33 := ⟨⟨ax_t1 (List.mem_of_getElem? (i := 109) rfl), rfl⟩, ⟨ax_t1 (List.mem_of_getElem? (i := 1) rfl), rfl⟩, ⟨ax_t1 (List.mem_of_getElem? (i := 107) rfl), rfl⟩, fun _ => ⟨⟨ax_t1 (List.mem_of_getElem? (i := 108) rfl), rfl⟩, rfl, rfl⟩, fun h => absurd h (by decide)⟩
theorem ax_mw34 : ax_mwP 34 := ⟨⟨ax_t2 (List.mem_of_getElem? (i := 92) rfl), rfl⟩, ⟨ax_t1 (List.mem_of_getElem? (i := 1) rfl), rfl⟩, ⟨ax_t2 (List.mem_of_getElem? (i := 90) rfl), rfl⟩, fun _ => ⟨⟨ax_t2 (List.mem_of_getElem? (i := 91) rfl), rfl⟩, rfl, rfl⟩, fun h => absurd h (by decide)⟩
theorem ax_mw35 : ax_mwP 35 := ⟨⟨ax_t1 (List.mem_of_getElem? (i := 99) rfl), rfl⟩, ⟨ax_t1 (List.mem_of_getElem? (i := 0) rfl), rfl⟩, ⟨ax_t1 (List.mem_of_getElem? (i := 98) rfl), rfl⟩, fun h => absurd h (by decide), fun h => absurd h (by decide)⟩
theorem ax_mw36 : ax_mwP 36 := ⟨⟨ax_t2 (List.mem_of_getElem? (i := 134) rfl), rfl⟩, ⟨ax_t1 (List.mem_of_getElem? (i := 1) rfl), rfl⟩, ⟨ax_t2 (List.mem_of_getElem? (i := 132) rfl), rfl⟩, fun _ => ⟨⟨ax_t2 (List.mem_of_getElem? (i := 133) rfl), rfl⟩, rfl, rfl⟩, fun h => absurd h (by decide)⟩
theorem ax_mw37 : ax_mwP 37 := ⟨⟨ax_t2 (List.mem_of_getElem? (i := 158) rfl), rfl⟩, ⟨ax_t1 (List.mem_of_getElem? (i := 1) rfl), rfl⟩, ⟨ax_t2 (List.mem_of_getElem? (i := 156) rfl), rfl⟩, fun _ => ⟨⟨ax_t2 (List.mem_of_getElem? (i := 157) rfl), rfl⟩, rfl, rfl⟩, fun h => absurd h (by decide)⟩
theorem ax_mw38 : ax_mwP 38 := ⟨⟨ax_t1 (List.mem_of_getElem? (i := 99) rfl), rfl⟩, ⟨ax_t1 (List.mem_of_getElem? (i := 0) rfl), rfl⟩, ⟨ax_t1 (List.mem_of_getElem? (i := 98) rfl), rfl⟩, fun h => absurd h (by decide), fun h => absurd h (by decide)⟩
theorem ax_mw39 : ax_mwP 39 := ⟨⟨ax_t1 (List.mem_of_getElem? (i := 99) rfl), rfl⟩, ⟨ax_t1 (List.mem_of_getElem? (i := 0) rfl), rfl⟩, ⟨ax_t1 (List.mem_of_getElem? (i := 98) rfl), rfl⟩, fun h => absurd h (by decide), fun h => absurd h (by decide)⟩
theorem ax_mw40 : ax_mwP 40 := ⟨⟨ax_t1 (List.mem_of_getElem? (i := 99) rfl), rfl⟩, ⟨ax_t1 (List.mem_of_getElem? (i := 0) rfl), rfl⟩, ⟨ax_t1 (List.mem_of_getElem? (i := 98) rfl), rfl⟩, fun h => absurd h (by decide), fun h => absurd h (by decide)⟩
theorem ax_mw41 : ax_mwP 41 := ⟨⟨ax_t2 (List.mem_of_getElem? (i := 165) rfl), rfl⟩, ⟨ax_t1 (List.mem_of_getElem? (i := 1) rfl), rfl⟩, ⟨ax_t2 (List.mem_of_getElem? (i := 163) rfl), rfl⟩, fun _ => ⟨⟨ax_t2 (List.mem_of_getElem? (i := 164) rfl), rfl⟩, rfl, rfl⟩, fun h => absurd h (by decide)⟩
theorem ax_mw42 : ax_mwP 42 := ⟨⟨ax_t3 (List.mem_of_getElem? (i := 141) rfl), rfl⟩, ⟨ax_t1 (List.mem_of_getElem? (i := 1) rfl), rfl⟩, ⟨ax_t3 (List.mem_of_getElem? (i := 139) rfl), rfl⟩, fun _ => ⟨⟨ax_t3 (List.mem_of_getElem? (i := 140) rfl), rfl⟩, rfl, rfl⟩, fun h => absurd h (by decide)⟩
theorem ax_mw43 : ax_mwP 43 := ⟨⟨ax_t1 (List.mem_of_getElem? (i := 92) rfl), rfl⟩, ⟨ax_t1 (List.mem_of_getElem? (i := 1) rfl), rfl⟩, ⟨ax_t1 (List.mem_of_getElem? (i := 90) rfl), rfl⟩, fun _ => ⟨⟨ax_t1 (List.mem_of_getElem? (i := 91) rfl), rfl⟩, rfl, rfl⟩, fun h => absurd h (by decide)⟩
theorem ax_mw44 : ax_mwP 44 := ⟨⟨ax_t4 (List.mem_of_getElem? (i := 1) rfl), rfl⟩, ⟨ax_t1 (List.mem_of_getElem? (i := 1) rfl), rfl⟩, ⟨ax_t3 (List.mem_of_getElem? (i := 239) rfl), rfl⟩, fun _ => ⟨⟨ax_t4 (List.mem_of_getElem? (i := 0) rfl), rfl⟩, rfl, rfl⟩, fun h => absurd h (by decide)⟩
theorem ax_mw45 : ax_mwP 45 := ⟨⟨ax_t4 (List.mem_of_getElem? (i := 39) rfl), rfl⟩, ⟨ax_t1 (List.mem_of_getElem? (i := 1) rfl), rfl⟩, ⟨ax_t4 (List.mem_of_getElem? (i := 37) rfl), rfl⟩, fun _ => ⟨⟨ax_t4 (List.mem_of_getElem? (i := 38) rfl), rfl⟩, rfl, rfl⟩, fun h => absurd h (by decide)⟩
theorem ax_mw46 : ax_mwP 46 := ⟨⟨ax_t4 (List.mem_of_getElem? (i := 54) rfl), rfl⟩, ⟨ax_t1 (List.mem_of_getElem? (i := 1) rfl), rfl⟩, ⟨ax_t4 (List.mem_of_getElem? (i := 52) rfl), rfl⟩, fun _ => ⟨⟨ax_t4 (List.mem_of_getElem? (i := 53) rfl), rfl⟩, rfl, rfl⟩, fun h => absurd h (by decide)⟩
theorem ax_mw47 : ax_mwP 47 := ⟨⟨ax_t4 (List.mem_of_getElem? (i := 58) rfl), rfl⟩, ⟨ax_t1 (List.mem_of_getElem? (i := 1) rfl), rfl⟩, ⟨ax_t4 (List.mem_of_getElem? (i := 56) rfl), rfl⟩, fun _ => ⟨⟨ax_t4 (List.mem_of_getElem? (i := 57) rfl), rfl⟩, rfl, rfl⟩, fun h => absurd h (by decide)⟩
theorem ax_mw48 : ax_mwP 48 := ⟨⟨ax_t1 (List.mem_of_getElem? (i := 99) rfl), rfl⟩, ⟨ax_t1 (List.mem_of_getElem? (i := 0) rfl), rfl⟩, ⟨ax_t1 (List.mem_of_getElem? (i := 98) rfl), rfl⟩, fun h => absurd h (by decide), fun h => absurd h (by decide)⟩
theorem ax_mw49 : ax_mwP 49 := ⟨⟨ax_t1 (List.mem_of_getElem? (i := 99) rfl), rfl⟩, ⟨ax_t1 (List.mem_of_getElem? (i := 0) rfl), rfl⟩, ⟨ax_t1 (List.mem_of_getElem? (i := 98) rfl), rfl⟩, fun h => absurd h (by decide), fun h => absurd h (by decide)⟩
theorem ax_mw50 : ax_mwP 50 := ⟨⟨ax_t3 (List.mem_of_getElem? (i := 230) rfl), rfl⟩, ⟨ax_t1 (List.mem_of_getElem? (i := 1) rfl), rfl⟩, ⟨ax_t3 (List.mem_of_getElem? (i := 228) rfl), rfl⟩, fun _ => ⟨⟨ax_t3 (List.mem_of_getElem? (i := 229) rfl), rfl⟩, rfl, rfl⟩, fun h => absurd h (by decide)⟩
theorem ax_mw51 : ax_mwP 51 := ⟨⟨ax_t4 (List.mem_of_getElem? (i := 5) rfl), rfl⟩, ⟨ax_t1 (List.mem_of_getElem? (i := 1) rfl), rfl⟩, ⟨ax_t4 (List.mem_of_getElem? (i := 3) rfl), rfl⟩, fun _ => ⟨⟨ax_t4 (List.mem_of_getElem? (i := 4) rfl), rfl⟩, rfl, rfl⟩, fun h => absurd h (by decide)⟩
theorem ax_mw52 : ax_mwP 52 := ⟨⟨ax_t4 (List.mem_of_getElem? (i := 14) rfl), rfl⟩, ⟨ax_t1 (List.mem_of_getElem? (i := 1) rfl), rfl⟩, ⟨ax_t4 (List.mem_of_getElem? (i := 12) rfl), rfl⟩, fun _ => ⟨⟨ax_t4 (List.mem_of_getElem? (i := 13) rfl), rfl⟩, rfl, rfl⟩, fun h => absurd h (by decide)⟩
theorem ax_mw53 : ax_mwP 53 := ⟨⟨ax_t3 (List.mem_of_getElem? (i := 154) rfl), rfl⟩, ⟨ax_t1 (List.mem_of_getElem? (i := 1) rfl), rfl⟩, ⟨ax_t3 (List.mem_of_getElem? (i := 152) rfl), rfl⟩, fun _ => ⟨⟨ax_t3 (List.mem_of_getElem? (i := 153) rfl), rfl⟩, rfl, rfl⟩, fun h => absurd h (by decide)⟩
theorem ax_mw54 : ax_mwP 54 := ⟨⟨ax_t3 (List.mem_of_getElem? (i := 192) rfl), rfl⟩, ⟨ax_t1 (List.mem_of_getElem? (i := 1) rfl), rfl⟩, ⟨ax_t3 (List.mem_of_getElem? (i := 190) rfl), rfl⟩, fun _ => ⟨⟨ax_t3 (List.mem_of_getElem? (i := 191) rfl), rfl⟩, rfl, rfl⟩, fun h => absurd h (by decide)⟩
theorem ax_mw55 : ax_mwP 55 := ⟨⟨ax_t3 (List.mem_of_getElem? (i := 174) rfl), rfl⟩, ⟨ax_t1 (List.mem_of_getElem? (i := 1) rfl), rfl⟩, ⟨ax_t3 (List.mem_of_getElem? (i := 172) rfl), rfl⟩, fun _ => ⟨⟨ax_t3 (List.mem_of_getElem? (i := 173) rfl), rfl⟩, rfl, rfl⟩, fun h => absurd h (by decide)⟩
theorem ax_mw56 : ax_mwP 56 := ⟨⟨ax_t4 (List.mem_of_getElem? (i := 18) rfl), rfl⟩, ⟨ax_t1 (List.mem_of_getElem? (i := 1) rfl), rfl⟩, ⟨ax_t4 (List.mem_of_getElem? (i := 16) rfl), rfl⟩, fun _ => ⟨⟨ax_t4 (List.mem_of_getElem? (i := 17) rfl), rfl⟩, rfl, rfl⟩, fun h => absurd h (by decide)⟩
theorem ax_mw57 : ax_mwP 57 := ⟨⟨ax_t4 (List.mem_of_getElem? (i := 22) rfl), rfl⟩, ⟨ax_t1 (List.mem_of_getElem? (i := 1) rfl), rfl⟩, ⟨ax_t4 (List.mem_of_getElem? (i := 20) rfl), rfl⟩, fun _ => ⟨⟨ax_t4 (List.mem_of_getElem? (i := 21) rfl), rfl⟩, rfl, rfl⟩, fun h => absurd h (by decide)⟩
theorem ax_mw58 : ax_mwP 58 := ⟨⟨ax_t3 (List.mem_of_getElem? (i := 234) rfl), rfl⟩, ⟨ax_t1 (List.mem_of_getElem? (i := 1) rfl), rfl⟩, ⟨ax_t3 (List.mem_of_getElem? (i := 232) rfl), rfl⟩, fun _ => ⟨⟨ax_t3 (List.mem_of_getElem? (i := 233) rfl), rfl⟩, rfl, rfl⟩, fun h => absurd h (by decide)⟩
theorem ax_mw59 : ax_mwP 59 := ⟨⟨ax_t4 (List.mem_of_getElem? (i := 26) rfl), rfl⟩, ⟨ax_t1 (List.mem_of_getElem? (i := 1) rfl), rfl⟩, ⟨ax_t4 (List.mem_of_getElem? (i := 24) rfl), rfl⟩, fun _ => ⟨⟨ax_t4 (List.mem_of_getElem? (i := 25) rfl), rfl⟩, rfl, rfl⟩, fun h => absurd h (by decide)⟩
theorem ax_mw60 : ax_mwP 60 := ⟨⟨ax_t4 (List.mem_of_getElem? (i := 62) rfl), rfl⟩, ⟨ax_t1 (List.mem_of_getElem? (i := 1) rfl), rfl⟩, ⟨ax_t4 (List.mem_of_getElem? (i := 60) rfl), rfl⟩, fun _ => ⟨⟨ax_t4 (List.mem_of_getElem? (i := 61) rfl), rfl⟩, rfl, rfl⟩, fun h => absurd h (by decide)⟩
theorem ax_mw61 : ax_mwP 61 := ⟨⟨ax_t2 (List.mem_of_getElem? (i := 96) rfl), rfl⟩, ⟨ax_t1 (List.mem_of_getElem? (i := 1) rfl), rfl⟩, ⟨ax_t2 (List.mem_of_getElem? (i := 95) rfl), rfl⟩, fun _ => ⟨⟨ax_t0 (List.mem_of_getElem? (i := 6) rfl), rfl⟩, rfl, rfl⟩, fun h => absurd h (by decide)⟩
theorem ax_mw62 : ax_mwP 62 := ⟨⟨ax_t3 (List.mem_of_getElem? (i := 145) rfl), rfl⟩, ⟨ax_t1 (List.mem_of_getElem? (i := 1) rfl), rfl⟩, ⟨ax_t3 (List.mem_of_getElem? (i := 144) rfl), rfl⟩, fun _ => ⟨⟨ax_t0 (List.mem_of_getElem? (i := 17) rfl), rfl⟩, rfl, rfl⟩, fun h => absurd h (by decide)⟩
theorem ax_mw63 : ax_mwP 63 := ⟨⟨ax_t4 (List.mem_of_getElem? (i := 47) rfl), rfl⟩, ⟨ax_t1 (List.mem_of_getElem? (i := 1) rfl), rfl⟩, ⟨ax_t4 (List.mem_of_getElem? (i := 46) rfl), rfl⟩, fun _ => ⟨⟨ax_t0 (List.mem_of_getElem? (i := 25) rfl), rfl⟩, rfl, rfl⟩, fun h => absurd h (by decide)⟩
theorem ax_mw64 : ax_mwP 64 := ⟨⟨ax_t4 (List.mem_of_getElem? (i := 43) rfl), rfl⟩, ⟨ax_t1 (List.mem_of_getElem? (i := 1) rfl), rfl⟩, ⟨ax_t4 (List.mem_of_getElem? (i := 42) rfl), rfl⟩, fun _ => ⟨⟨ax_t0 (List.mem_of_getElem? (i := 24) rfl), rfl⟩, rfl, rfl⟩, fun h => absurd h (by decide)⟩
theorem ax_mw65 : ax_mwP 65 := ⟨⟨ax_t4 (List.mem_of_getElem? (i := 9) rfl), rfl⟩, ⟨ax_t1 (List.mem_of_getElem? (i := 1) rfl), rfl⟩, ⟨ax_t4 (List.mem_of_getElem? (i := 8) rfl), rfl⟩, fun _ => ⟨⟨ax_t0 (List.mem_of_getElem? (i := 22) rfl), rfl⟩, rfl, rfl⟩, fun h => absurd h (by decide)⟩
theorem ax_mw66 : ax_mwP 66 := ⟨⟨ax_t3 (List.mem_of_getElem? (i := 178) rfl), rfl⟩, ⟨ax_t1 (List.mem_of_getElem? (i := 1) rfl), rfl⟩, ⟨ax_t3 (List.mem_of_getElem? (i := 177) rfl), rfl⟩, fun _ => ⟨⟨ax_t0 (List.mem_of_getElem? (i := 19) rfl), rfl⟩, rfl, rfl⟩, fun h => absurd h (by decide)⟩
theorem ax_mw67 : ax_mwP 67 := ⟨⟨ax_t4 (List.mem_of_getElem? (i := 30) rfl), rfl⟩, ⟨ax_t1 (List.mem_of_getElem? (i := 1) rfl), rfl⟩, ⟨ax_t4 (List.mem_of_getElem? (i := 29) rfl), rfl⟩, fun _ => ⟨⟨ax_t0 (List.mem_of_getElem? (i := 23) rfl), rfl⟩, rfl, rfl⟩, fun h => absurd h (by decide)⟩
theorem ax_mw68 : ax_mwP 68 := ⟨⟨ax_t3 (List.mem_of_getElem? (i := 158) rfl), rfl⟩, ⟨ax_t1 (List.mem_of_getElem? (i := 1) rfl), rfl⟩, ⟨ax_t3 (List.mem_of_getElem? (i := 157) rfl), rfl⟩, fun _ => ⟨⟨ax_t0 (List.mem_of_getElem? (i := 18) rfl), rfl⟩, rfl, rfl⟩, fun h => absurd h (by decide)⟩
theorem ax_mw69 : ax_mwP 69 := ⟨⟨ax_t1 (List.mem_of_getElem? (i := 181) rfl), rfl⟩, ⟨ax_t1 (List.mem_of_getElem? (i := 1) rfl), rfl⟩, ⟨ax_t1 (List.mem_of_getElem? (i := 180) rfl), rfl⟩, fun _ => ⟨⟨ax_t0 (List.mem_of_getElem? (i := 1) rfl), rfl⟩, rfl, rfl⟩, fun h => absurd h (by decide)⟩
theorem ax_mw70 : ax_mwP 70 := ⟨⟨ax_t2 (List.mem_of_getElem? (i := 169) rfl), rfl⟩, ⟨ax_t1 (List.mem_of_getElem? (i := 1) rfl), rfl⟩, ⟨ax_t2 (List.mem_of_getElem? (i := 168) rfl), rfl⟩, fun h => absurd h (by decide), fun h => absurd h (by decide)⟩
theorem ax_mw71 : ax_mwP 71 := ⟨⟨ax_t1 (List.mem_of_getElem? (i := 185) rfl), rfl⟩, ⟨ax_t1 (List.mem_of_getElem? (i := 1) rfl), rfl⟩, ⟨ax_t1 (List.mem_of_getElem? (i := 184) rfl), rfl⟩, fun _ => ⟨⟨ax_t0 (List.mem_of_getElem? (i := 2) rfl), rfl⟩, rfl, rfl⟩, fun h => absurd h (by decide)⟩
theorem ax_mw72 : ax_mwP 72 := ⟨⟨ax_t2 (List.mem_of_getElem? (i := 120) rfl), rfl⟩, ⟨ax_t1 (List.mem_of_getElem? (i := 1) rfl), rfl⟩, ⟨ax_t2 (List.mem_of_getElem? (i := 119) rfl), rfl⟩, fun _ => ⟨⟨ax_t0 (List.mem_of_getElem? (i := 7) rfl), rfl⟩, rfl, rfl⟩, fun h => absurd h (by decide)⟩
theorem ax_mw73 : ax_mwP 73 := ⟨⟨ax_t3 (List.mem_of_getElem? (i := 89) rfl), rfl⟩, ⟨ax_t1 (List.mem_of_getElem? (i := 1) rfl), rfl⟩, ⟨ax_t3 (List.mem_of_getElem? (i := 88) rfl), rfl⟩, fun _ => ⟨⟨ax_t0 (List.mem_of_getElem? (i := 14) rfl), rfl⟩, rfl, rfl⟩, fun h => absurd h (by decide)⟩
theorem ax_mw74 : ax_mwP 74 := ⟨⟨ax_t3 (List.mem_of_getElem? (i := 110) rfl), rfl⟩, ⟨ax_t1 (List.mem_of_getElem? (i := 1) rfl), rfl⟩, ⟨ax_t3 (List.mem_of_getElem? (i := 109) rfl), rfl⟩, fun _ => ⟨⟨ax_t0 (List.mem_of_getElem? (i := 15) rfl), rfl⟩, rfl, rfl⟩, fun h => absurd h (by decide)⟩
theorem ax_mw75 : ax_mwP 75 := ⟨⟨ax_t3 (List.mem_of_getElem? (i := 126) rfl), rfl⟩, ⟨ax_t1 (List.mem_of_getElem? (i := 1) rfl), rfl⟩, ⟨ax_t3 (List.mem_of_getElem? (i := 125) rfl), rfl⟩, fun _ => ⟨⟨ax_t0 (List.mem_of_getElem? (i := 16) rfl), rfl⟩, rfl, rfl⟩, fun h => absurd h (by decide)⟩
theorem ax_mw76 : ax_mwP 76 := ⟨⟨ax_t3 (List.mem_of_getElem? (i := 219) rfl), rfl⟩, ⟨ax_t1 (List.mem_of_getElem? (i := 1) rfl), rfl⟩, ⟨ax_t3 (List.mem_of_getElem? (i := 218) rfl), rfl⟩, fun _ => ⟨⟨ax_t0 (List.mem_of_getElem? (i := 21) rfl), rfl⟩, rfl, rfl⟩, fun h => absurd h (by decide)⟩
theorem ax_mw77 : ax_mwP 77 := ⟨⟨ax_t3 (List.mem_of_getElem? (i := 188) rfl), rfl⟩, ⟨ax_t1 (List.mem_of_getElem? (i := 1) rfl), rfl⟩, ⟨ax_t3 (List.mem_of_getElem? (i := 187) rfl), rfl⟩, fun _ => ⟨⟨ax_t0 (List.mem_of_getElem? (i := 20) rfl), rfl⟩, rfl, rfl⟩, fun h => absurd h (by decide)⟩
theorem ax_mw78 : ax_mwP 78 := ⟨⟨ax_t2 (List.mem_of_getElem? (i := 215) rfl), rfl⟩, ⟨ax_t1 (List.mem_of_getElem? (i := 1) rfl), rfl⟩, ⟨ax_t2 (List.mem_of_getElem? (i := 214) rfl), rfl⟩, fun _ => ⟨⟨ax_t0 (List.mem_of_getElem? (i := 13) rfl), rfl⟩, rfl, rfl⟩, fun h => absurd h (by decide)⟩
theorem ax_mw79 : ax_mwP 79 := ⟨⟨ax_t2 (List.mem_of_getElem? (i := 179) rfl), rfl⟩, ⟨ax_t1 (List.mem_of_getElem? (i := 1) rfl), rfl⟩, ⟨ax_t2 (List.mem_of_getElem? (i := 178) rfl), rfl⟩, fun _ => ⟨⟨ax_t0 (List.mem_of_getElem? (i := 9) rfl), rfl⟩, rfl, rfl⟩, fun h => absurd h (by decide)⟩
theorem ax_mw80 : ax_mwP 80 := ⟨⟨ax_t2 (List.mem_of_getElem? (i := 183) rfl), rfl⟩, ⟨ax_t1 (List.mem_of_getElem? (i := 1) rfl), rfl⟩, ⟨ax_t2 (List.mem_of_getElem? (i := 182) rfl), rfl⟩, fun _ => ⟨⟨ax_t0 (List.mem_of_getElem? (i := 10) rfl), rfl⟩, rfl, rfl⟩, fun h => absurd h (by decide)⟩
theorem ax_mw81 : ax_mwP 81 := ⟨⟨ax_t2 (List.mem_of_getElem? (i := 202) rfl), rfl⟩, ⟨ax_t1 (List.mem_of_getElem? (i := 1) rfl), rfl⟩, ⟨ax_t2 (List.mem_of_getElem? (i := 201) rfl), rfl⟩, fun _ => ⟨⟨ax_t0 (List.mem_of_getElem? (i := 11) rfl), rfl⟩, rfl, rfl⟩, fun h => absurd h (by decide)⟩
theorem ax_mw82 : ax_mwP 82 := ⟨⟨ax_t2 (List.mem_of_getElem? (i := 211) rfl), rfl⟩, ⟨ax_t1 (List.mem_of_getElem? (i := 1) rfl), rfl⟩, ⟨ax_t2 (List.mem_of_getElem? (i := 210) rfl), rfl⟩, fun _ => ⟨⟨ax_t0 (List.mem_of_getElem? (i := 12) rfl), rfl⟩, rfl, rfl⟩, fun h => absurd h (by decide)⟩
theorem ax_mw83 : ax_mwP 83 := ⟨⟨ax_t1 (List.mem_of_getElem? (i := 99) rfl), rfl⟩, ⟨ax_t1 (List.mem_of_getElem? (i := 0) rfl), rfl⟩, ⟨ax_t1 (List.mem_of_getElem? (i := 98) rfl), rfl⟩, fun h => absurd h (by decide), fun h => absurd h (by decide)⟩
theorem ax_mw84 : ax_mwP 84 := ⟨⟨ax_t1 (List.mem_of_getElem? (i := 99) rfl), rfl⟩, ⟨ax_t1 (List.mem_of_getElem? (i := 0) rfl), rfl⟩, ⟨ax_t1 (List.mem_of_getElem? (i := 98) rfl), rfl⟩, fun h => absurd h (by decide), fun h => absurd h (by decide)⟩
theorem ax_mw85 : ax_mwP 85 := ⟨⟨ax_t1 (List.mem_of_getElem? (i := 99) rfl), rfl⟩, ⟨ax_t1 (List.mem_of_getElem? (i := 0) rfl), rfl⟩, ⟨ax_t1 (List.mem_of_getElem? (i := 98) rfl), rfl⟩, fun h => absurd h (by decide), fun h => absurd h (by decide)⟩
theorem ax_mw86 : ax_mwP 86 := ⟨⟨ax_t1 (List.mem_of_getElem? (i := 99) rfl), rfl⟩, ⟨ax_t1 (List.mem_of_getElem? (i := 0) rfl), rfl⟩, ⟨ax_t1 (List.mem_of_getElem? (i := 98) rfl), rfl⟩, fun h => absurd h (by decide), fun h => absurd h (by decide)⟩
theorem ax_mw87 : ax_mwP 87 := ⟨⟨ax_t1 (List.mem_of_getElem? (i := 99) rfl), rfl⟩, ⟨ax_t1 (List.mem_of_getElem? (i := 0) rfl), rfl⟩, ⟨ax_t1 (List.mem_of_getElem? (i := 98) rfl), rfl⟩, fun h => absurd h (by decide), fun h => absurd h (by decide)⟩
theorem ax_mw88 : ax_mwP 88 := ⟨⟨ax_t1 (List.mem_of_getElem? (i := 99) rfl), rfl⟩, ⟨ax_t1 (List.mem_of_getElem? (i := 0) rfl), rfl⟩, ⟨ax_t1 (List.mem_of_getElem? (i := 98) rfl), rfl⟩, fun h => absurd h (by decide), fun h => absurd h (by decide)⟩
theorem ax_mw89 : ax_mwP 89 := ⟨⟨ax_t1 (List.mem_of_getElem? (i := 99) rfl), rfl⟩, ⟨ax_t1 (List.mem_of_getElem? (i := 0) rfl), rfl⟩, ⟨ax_t1 (List.mem_of_getElem? (i := 98) rfl), rfl⟩, fun h => absurd h (by decide), fun h => absurd h (by decide)⟩
theorem ax_mw90 : ax_mwP 90 := ⟨⟨ax_t1 (List.mem_of_getElem? (i := 99) rfl), rfl⟩, ⟨ax_t1 (List.mem_of_getElem? (i := 0) rfl), rfl⟩, ⟨ax_t1 (List.mem_of_getElem? (i := 98) rfl), rfl⟩, fun h => absurd h (by decide), fun h => absurd h (by decide)⟩
theorem ax_mw91 : ax_mwP 91 := ⟨⟨ax_t1 (List.mem_of_getElem? (i := 99) rfl), rfl⟩, ⟨ax_t1 (List.mem_of_getElem? (i := 0) rfl), rfl⟩, ⟨ax_t1 (List.mem_of_getElem? (i := 98) rfl), rfl⟩, fun h => absurd h (by decide), fun h => absurd h (by decide)⟩
theorem ax_mw92 : ax_mwP 92 := ⟨⟨ax_t1 (List.mem_of_getElem? (i := 99) rfl), rfl⟩, ⟨ax_t1 (List.mem_of_getElem? (i := 0) rfl), rfl⟩, ⟨ax_t1 (List.mem_of_getElem? (i := 98) rfl), rfl⟩, fun h => absurd h (by decide), fun h => absurd h (by decide)⟩
theorem ax_mw93 : ax_mwP 93 := ⟨⟨ax_t1 (List.mem_of_getElem? (i := 99) rfl), rfl⟩, ⟨ax_t1 (List.mem_of_getElem? (i := 0) rfl), rfl⟩, ⟨ax_t1 (List.mem_of_getElem? (i := 98) rfl), rfl⟩, fun h => absurd h (by decide), fun h => absurd h (by decide)⟩
theorem ax_mw94 : ax_mwP 94 := ⟨⟨ax_t1 (List.mem_of_getElem? (i := 99) rfl), rfl⟩, ⟨ax_t1 (List.mem_of_getElem? (i := 0) rfl), rfl⟩, ⟨ax_t1 (List.mem_of_getElem? (i := 98) rfl), rfl⟩, fun h => absurd h (by decide), fun h => absurd h (by decide)⟩
theorem ax_mw95 : ax_mwP 95 := ⟨⟨ax_t1 (List.mem_of_getElem? (i := 99) rfl), rfl⟩, ⟨ax_t1 (List.mem_of_getElem? (i := 0) rfl), rfl⟩, ⟨ax_t1 (List.mem_of_getElem? (i := 98) rfl), rfl⟩, fun h => absurd h (by decide), fun h => absurd h (by decide)⟩
theorem ax_mw96 : ax_mwP 96 := ⟨⟨ax_t1 (List.mem_of_getElem? (i := 99) rfl), rfl⟩, ⟨ax_t1 (List.mem_of_getElem? (i := 0) rfl), rfl⟩, ⟨ax_t1 (List.mem_of_getElem? (i := 98) rfl), rfl⟩, fun h => absurd h (by decide), fun h => absurd h (by decide)⟩
theorem ax_mw97 : ax_mwP 97 := ⟨⟨ax_t1 (List.mem_of_getElem? (i := 99) rfl), rfl⟩, ⟨ax_t1 (List.mem_of_getElem? (i := 0) rfl), rfl⟩, ⟨ax_t1 (List.mem_of_getElem? (i := 98) rfl), rfl⟩, fun h => absurd h (by decide), fun h => absurd h (by decide)⟩
theorem ax_mw98 : ax_mwP 98 := ⟨⟨ax_t1 (List.mem_of_getElem? (i := 99) rfl), rfl⟩, ⟨ax_t1 (List.mem_of_getElem? (i := 0) rfl), rfl⟩, ⟨ax_t1 (List.mem_of_getElem? (i := 98) rfl), rfl⟩, fun h => absurd h (by decide), fun h => absurd h (by decide)⟩
theorem ax_mw99 : ax_mwP 99 := ⟨⟨ax_t1 (List.mem_of_getElem? (i := 99) rfl), rfl⟩, ⟨ax_t1 (List.mem_of_getElem? (i := 0) rfl), rfl⟩, ⟨ax_t1 (List.mem_of_getElem? (i := 98) rfl), rfl⟩, fun h => absurd h (by decide), fun h => absurd h (by decide)⟩
theorem ax_mw100 : ax_mwP 100 := ⟨⟨ax_t1 (List.mem_of_getElem? (i := 99) rfl), rfl⟩, ⟨ax_t1 (List.mem_of_getElem? (i := 0) rfl), rfl⟩, ⟨ax_t1 (List.mem_of_getElem? (i := 98) rfl), rfl⟩, fun h => absurd h (by decide), fun h => absurd h (by decide)⟩
theorem ax_mw101 : ax_mwP 101 := ⟨⟨ax_t1 (List.mem_of_getElem? (i := 99) rfl), rfl⟩, ⟨ax_t1 (List.mem_of_getElem? (i := 0) rfl), rfl⟩, ⟨ax_t1 (List.mem_of_getElem? (i := 98) rfl), rfl⟩, fun h => absurd h (by decide), fun h => absurd h (by decide)⟩
theorem ax_mw102 : ax_mwP 102 := ⟨⟨ax_t1 (List.mem_of_getElem? (i := 99) rfl), rfl⟩, ⟨ax_t1 (List.mem_of_getElem? (i := 0) rfl), rfl⟩, ⟨ax_t1 (List.mem_of_getElem? (i := 98) rfl), rfl⟩, fun h => absurd h (by decide), fun h => absurd h (by decide)⟩
theorem ax_mw103 : ax_mwP 103 := ⟨⟨ax_t1 (List.mem_of_getElem? (i := 99) rfl), rfl⟩, ⟨ax_t1 (List.mem_of_getElem? (i := 0) rfl), rfl⟩, ⟨ax_t1 (List.mem_of_getElem? (i := 98) rfl), rfl⟩, fun h => absurd h (by decide), fun h => absurd h (by decide)⟩
theorem ax_mw104 : ax_mwP 104 := ⟨⟨ax_t1 (List.mem_of_getElem? (i := 99) rfl), rfl⟩, ⟨ax_t1 (List.mem_of_getElem? (i := 0) rfl), rfl⟩, ⟨ax_t1 (List.mem_of_getElem? (i := 98) rfl), rfl⟩, fun h => absurd h (by decide), fun h => absurd h (by decide)⟩
theorem ax_mw105 : ax_mwP 105 := ⟨⟨ax_t1 (List.mem_of_getElem? (i := 99) rfl), rfl⟩, ⟨ax_t1 (List.mem_of_getElem? (i := 0) rfl), rfl⟩, ⟨ax_t1 (List.mem_of_getElem? (i := 98) rfl), rfl⟩, fun h => absurd h (by decide), fun h => absurd h (by decide)⟩
theorem ax_mw106 : ax_mwP 106 := ⟨⟨ax_t1 (List.mem_of_getElem? (i := 99) rfl), rfl⟩, ⟨ax_t1 (List.mem_of_getElem? (i := 0) rfl), rfl⟩, ⟨ax_t1 (List.mem_of_getElem? (i := 98) rfl), rfl⟩, fun h => absurd h (by decide), fun h => absurd h (by decide)⟩
theorem ax_mw107 : ax_mwP 107 := ⟨⟨ax_t1 (List.mem_of_getElem? (i := 99) rfl), rfl⟩, ⟨ax_t1 (List.mem_of_getElem? (i := 0) rfl), rfl⟩, ⟨ax_t1 (List.mem_of_getElem? (i := 98) rfl), rfl⟩, fun h => absurd h (by decide), fun h => absurd h (by decide)⟩
theorem ax_mw108 : ax_mwP 108 := ⟨⟨ax_t1 (List.mem_of_getElem? (i := 99) rfl), rfl⟩, ⟨ax_t1 (List.mem_of_getElem? (i := 0) rfl), rfl⟩, ⟨ax_t1 (List.mem_of_getElem? (i := 98) rfl), rfl⟩, fun h => absurd h (by decide), fun h => absurd h (by decide)⟩
theorem ax_mw109 : ax_mwP 109 := ⟨⟨ax_t1 (List.mem_of_getElem? (i := 99) rfl), rfl⟩, ⟨ax_t1 (List.mem_of_getElem? (i := 0) rfl), rfl⟩, ⟨ax_t1 (List.mem_of_getElem? (i := 98) rfl), rfl⟩, fun h => absurd h (by decide), fun h => absurd h (by decide)⟩
theorem ax_mw110 : ax_mwP 110 := ⟨⟨ax_t1 (List.mem_of_getElem? (i := 99) rfl), rfl⟩, ⟨ax_t1 (List.mem_of_getElem? (i := 0) rfl), rfl⟩, ⟨ax_t1 (List.mem_of_getElem? (i := 98) rfl), rfl⟩, fun h => absurd h (by decide), fun h => absurd h (by decide)⟩
theorem ax_mw111 : ax_mwP 111 := ⟨⟨ax_t1 (List.mem_of_getElem? (i := 99) rfl), rfl⟩, ⟨ax_t1 (List.mem_of_getElem? (i := 0) rfl), rfl⟩, ⟨ax_t1 (List.mem_of_getElem? (i := 98) rfl), rfl⟩, fun h => absurd h (by decide), fun h => absurd h (by decide)⟩
theorem ax_mw112 : ax_mwP 112 := ⟨⟨ax_t1 (List.mem_of_getElem? (i := 99) rfl), rfl⟩, ⟨ax_t1 (List.mem_of_getElem? (i := 0) rfl), rfl⟩, ⟨ax_t1 (List.mem_of_getElem? (i := 98) rfl), rfl⟩, fun h => absurd h (by decide), fun h => absurd h (by decide)⟩
theorem ax_mw113 : ax_mwP 113 := ⟨⟨ax_t1 (List.mem_of_getElem? (i := 99) rfl), rfl⟩, ⟨ax_t1 (List.mem_of_getElem? (i := 0) rfl), rfl⟩, ⟨ax_t1 (List.mem_of_getElem? (i := 98) rfl), rfl⟩, fun h => absurd h (by decide), fun h => absurd h (by decide)⟩
theorem ax_mw114 : ax_mwP 114 := ⟨⟨ax_t1 (List.mem_of_getElem? (i := 99) rfl), rfl⟩, ⟨ax_t1 (List.mem_of_getElem? (i := 0) rfl), rfl⟩, ⟨ax_t1 (List.mem_of_getElem? (i := 98) rfl), rfl⟩, fun h => absurd h (by decide), fun h => absurd h (by decide)⟩
theorem ax_mw115 : ax_mwP 115 := ⟨⟨ax_t1 (List.mem_of_getElem? (i := 99) rfl), rfl⟩, ⟨ax_t1 (List.mem_of_getElem? (i := 0) rfl), rfl⟩, ⟨ax_t1 (List.mem_of_getElem? (i := 98) rfl), rfl⟩, fun h => absurd h (by decide), fun h => absurd h (by decide)⟩
theorem ax_mw116 : ax_mwP 116 := ⟨⟨ax_t1 (List.mem_of_getElem? (i := 99) rfl), rfl⟩, ⟨ax_t1 (List.mem_of_getElem? (i := 0) rfl), rfl⟩, ⟨ax_t1 (List.mem_of_getElem? (i := 98) rfl), rfl⟩, fun h => absurd h (by decide), fun h => absurd h (by decide)⟩
theorem ax_mw117 : ax_mwP 117 := ⟨⟨ax_t1 (List.mem_of_getElem? (i := 99) rfl), rfl⟩, ⟨ax_t1 (List.mem_of_getElem? (i := 0) rfl), rfl⟩, ⟨ax_t1 (List.mem_of_getElem? (i := 98) rfl), rfl⟩, fun h => absurd h (by decide), fun h => absurd h (by decide)⟩
theorem ax_mw118 : ax_mwP 118 := ⟨⟨ax_t1 (List.mem_of_getElem? (i := 99) rfl), rfl⟩, ⟨ax_t1 (List.mem_of_getElem? (i := 0) rfl), rfl⟩, ⟨ax_t1 (List.mem_of_getElem? (i := 98) rfl), rfl⟩, fun h => absurd h (by decide), fun h => absurd h (by decide)⟩
theorem ax_mw119 : ax_mwP 119 := ⟨⟨ax_t1 (List.mem_of_getElem? (i := 99) rfl), rfl⟩, ⟨ax_t1 (List.mem_of_getElem? (i := 0) rfl), rfl⟩, ⟨ax_t1 (List.mem_of_getElem? (i := 98) rfl), rfl⟩, fun h => absurd h (by decide), fun h => absurd h (by decide)⟩
theorem ax_mw120 : ax_mwP 120 := ⟨⟨ax_t1 (List.mem_of_getElem? (i := 99) rfl), rfl⟩, ⟨ax_t1 (List.mem_of_getElem? (i := 0) rfl), rfl⟩, ⟨ax_t1 (List.mem_of_getElem? (i := 98) rfl), rfl⟩, fun h => absurd h (by decide), fun h => absurd h (by decide)⟩
theorem ax_mw121 : ax_mwP 121 := ⟨⟨ax_t1 (List.mem_of_getElem? (i := 99) rfl), rfl⟩, ⟨ax_t1 (List.mem_of_getElem? (i := 0) rfl), rfl⟩, ⟨ax_t1 (List.mem_of_getElem? (i := 98) rfl), rfl⟩, fun h => absurd h (by decide), fun h => absurd h (by decide)⟩
theorem ax_mw122 : ax_mwP 122 := ⟨⟨ax_t1 (List.mem_of_getElem? (i := 99) rfl), rfl⟩, ⟨ax_t1 (List.mem_of_getElem? (i := 0) rfl), rfl⟩, ⟨ax_t1 (List.mem_of_getElem? (i := 98) rfl), rfl⟩, fun h => absurd h (by decide), fun h => absurd h (by decide)⟩
theorem ax_mw123 : ax_mwP 123 := ⟨⟨ax_t1 (List.mem_of_getElem? (i := 99) rfl), rfl⟩, ⟨ax_t1 (List.mem_of_getElem? (i := 0) rfl), rfl⟩, ⟨ax_t1 (List.mem_of_getElem? (i := 98) rfl), rfl⟩, fun h => absurd h (by decide), fun h => absurd h (by decide)⟩
theorem ax_mw124 : ax_mwP 124 := ⟨⟨ax_t1 (List.mem_of_getElem? (i := 99) rfl), rfl⟩, ⟨ax_t1 (List.mem_of_getElem? (i := 0) rfl), rfl⟩, ⟨ax_t1 (List.mem_of_getElem? (i := 98) rfl), rfl⟩, fun h => absurd h (by decide), fun h => absurd h (by decide)⟩
theorem ax_mw125 : ax_mwP 125 := ⟨⟨ax_t1 (List.mem_of_getElem? (i := 99) rfl), rfl⟩, ⟨ax_t1 (List.mem_of_getElem? (i := 0) rfl), rfl⟩, ⟨ax_t1 (List.mem_of_getElem? (i := 98) rfl), rfl⟩, fun h => absurd h (by decide), fun h => absurd h (by decide)⟩
theorem ax_mw126 : ax_mwP 126 := ⟨⟨ax_t1 (List.mem_of_getElem? (i := 99) rfl), rfl⟩, ⟨ax_t1 (List.mem_of_getElem? (i := 0) rfl), rfl⟩, ⟨ax_t1 (List.mem_of_getElem? (i := 98) rfl), rfl⟩, fun h => absurd h (by decide), fun h => absurd h (by decide)⟩
theorem ax_mw127 : ax_mwP 127 := ⟨⟨ax_t1 (List.mem_of_getElem? (i := 99) rfl), rfl⟩, ⟨ax_t1 (List.mem_of_getElem? (i := 0) rfl), rfl⟩, ⟨ax_t1 (List.mem_of_getElem? (i := 98) rfl), rfl⟩, fun h => absurd h (by decide), fun h => absurd h (by decide)⟩
theorem ax_mw128 : ax_mwP 128 := ⟨⟨ax_t1 (List.mem_of_getElem? (i := 99) rfl), rfl⟩, ⟨ax_t1 (List.mem_of_getElem? (i := 0) rfl), rfl⟩, ⟨ax_t1 (List.mem_of_getElem? (i := 98) rfl), rfl⟩, fun h => absurd h (by decide), fun h => absurd h (by decide)⟩
theorem ax_mw129 : ax_mwP 129 := ⟨⟨ax_t1 (List.mem_of_getElem? (i := 99) rfl), rfl⟩, ⟨ax_t1 (List.mem_of_getElem? (i := 0) rfl), rfl⟩, ⟨ax_t1 (List.mem_of_getElem? (i := 98) rfl), rfl⟩, fun h => absurd h (by decide), fun h => absurd h (by decide)⟩
theorem ax_mw130 : ax_mwP 130 := ⟨⟨ax_t1 (List.mem_of_getElem? (i := 99) rfl), rfl⟩, ⟨ax_t1 (List.mem_of_getElem? (i := 0) rfl), rfl⟩, ⟨ax_t1 (List.mem_of_getElem? (i := 98) rfl), rfl⟩, fun h => absurd h (by decide), fun h => absurd h (by decide)⟩
theorem ax_mw131 : ax_mwP 131 := ⟨⟨ax_t1 (List.mem_of_getElem? (i := 99) rfl), rfl⟩, ⟨ax_t1 (List.mem_of_getElem? (i := 0) rfl), rfl⟩, ⟨ax_t1 (List.mem_of_getElem? (i := 98) rfl), rfl⟩, fun h => absurd h (by decide), fun h => absurd h (by decide)⟩
theorem ax_mw132 : ax_mwP 132 := ⟨⟨ax_t1 (List.mem_of_getElem? (i := 99) rfl), rfl⟩, ⟨ax_t1 (List.mem_of_getElem? (i := 0) rfl), rfl⟩, ⟨ax_t1 (List.mem_of_getElem? (i := 98) rfl), rfl⟩, fun h => absurd h (by decide), fun h => absurd h (by decide)⟩
theorem ax_mw133 : ax_mwP 133 := ⟨⟨ax_t1 (List.mem_of_getElem? (i := 99) rfl), rfl⟩, ⟨ax_t1 (List.mem_of_getElem? (i := 0) rfl), rfl⟩, ⟨ax_t1 (List.mem_of_getElem? (i := 98) rfl), rfl⟩, fun h => absurd h (by decide), fun h => absurd h (by decide)⟩
theorem ax_mw134 : ax_mwP 134 := ⟨⟨ax_t1 (List.mem_of_getElem? (i := 99) rfl), rfl⟩, ⟨ax_t1 (List.mem_of_getElem? (i := 0) rfl), rfl⟩, ⟨ax_t1 (List.mem_of_getElem? (i := 98) rfl), rfl⟩, fun h => absurd h (by decide), fun h => absurd h (by decide)⟩
theorem ax_mw135 : ax_mwP 135 := ⟨⟨ax_t1 (List.mem_of_getElem? (i := 99) rfl), rfl⟩, ⟨ax_t1 (List.mem_of_getElem? (i := 0) rfl), rfl⟩, ⟨ax_t1 (List.mem_of_getElem? (i := 98) rfl), rfl⟩, fun h => absurd h (by decide), fun h => absurd h (by decide)⟩
theorem ax_mw136 : ax_mwP 136 := ⟨⟨ax_t1 (List.mem_of_getElem? (i := 99) rfl), rfl⟩, ⟨ax_t1 (List.mem_of_getElem? (i := 0) rfl), rfl⟩, ⟨ax_t1 (List.mem_of_getElem? (i := 98) rfl), rfl⟩, fun h => absurd h (by decide), fun h => absurd h (by decide)⟩
theorem ax_mw137 : ax_mwP 137 := ⟨⟨ax_t1 (List.mem_of_getElem? (i := 99) rfl), rfl⟩, ⟨ax_t1 (List.mem_of_getElem? (i := 0) rfl), rfl⟩, ⟨ax_t1 (List.mem_of_getElem? (i := 98) rfl), rfl⟩, fun h => absurd h (by decide), fun h => absurd h (by decide)⟩
theorem ax_mw138 : ax_mwP 138 := ⟨⟨ax_t1 (List.mem_of_getElem? (i := 99) rfl), rfl⟩, ⟨ax_t1 (List.mem_of_getElem? (i := 0) rfl), rfl⟩, ⟨ax_t1 (List.mem_of_getElem? (i := 98) rfl), rfl⟩, fun h => absurd h (by decide), fun h => absurd h (by decide)⟩
theorem ax_mw139 : ax_mwP 139 := ⟨⟨ax_t1 (List.mem_of_getElem? (i := 99) rfl), rfl⟩, ⟨ax_t1 (List.mem_of_getElem? (i := 0) rfl), rfl⟩, ⟨ax_t1 (List.mem_of_getElem? (i := 98) rfl), rfl⟩, fun h => absurd h (by decide), fun h => absurd h (by decide)⟩
theorem ax_mw140 : ax_mwP 140 := ⟨⟨ax_t1 (List.mem_of_getElem? (i := 99) rfl), rfl⟩, ⟨ax_t1 (List.mem_of_getElem? (i := 0) rfl), rfl⟩, ⟨ax_t1 (List.mem_of_getElem? (i := 98) rfl), rfl⟩, fun h => absurd h (by decide), fun h => absurd h (by decide)⟩
theorem ax_mw141 : ax_mwP 141 := ⟨⟨ax_t1 (List.mem_of_getElem? (i := 99) rfl), rfl⟩, ⟨ax_t1 (List.mem_of_getElem? (i := 0) rfl), rfl⟩, ⟨ax_t1 (List.mem_of_getElem? (i := 98) rfl), rfl⟩, fun h => absurd h (by decide), fun h => absurd h (by decide)⟩
theorem ax_mw142 : ax_mwP 142 := ⟨⟨ax_t1 (List.mem_of_getElem? (i := 99) rfl), rfl⟩, ⟨ax_t1 (List.mem_of_getElem? (i := 0) rfl), rfl⟩, ⟨ax_t1 (List.mem_of_getElem? (i := 98) rfl), rfl⟩, fun h => absurd h (by decide), fun h => absurd h (by decide)⟩
theorem ax_mw143 : ax_mwP 143 := ⟨⟨ax_t1 (List.mem_of_getElem? (i := 99) rfl), rfl⟩, ⟨ax_t1 (List.mem_of_getElem? (i := 0) rfl), rfl⟩, ⟨ax_t1 (List.mem_of_getElem? (i := 98) rfl), rfl⟩, fun h => absurd h (by decide), fun h => absurd h (by decide)⟩
theorem ax_mw144 : ax_mwP 144 := ⟨⟨ax_t1 (List.mem_of_getElem? (i := 99) rfl), rfl⟩, ⟨ax_t1 (List.mem_of_getElem? (i := 0) rfl), rfl⟩, ⟨ax_t1 (List.mem_of_getElem? (i := 98) rfl), rfl⟩, fun h => absurd h (by decide), fun h => absurd h (by decide)⟩
theorem ax_mw145 : ax_mwP 145 := ⟨⟨ax_t1 (List.mem_of_getElem? (i := 99) rfl), rfl⟩, ⟨ax_t1 (List.mem_of_getElem? (i := 0) rfl), rfl⟩, ⟨ax_t1 (List.mem_of_getElem? (i := 98) rfl), rfl⟩, fun h => absurd h (by decide), fun h => absurd h (by decide)⟩
theorem ax_mw146 : ax_mwP 146 := ⟨⟨ax_t1 (List.mem_of_getElem? (i := 99) rfl), rfl⟩, ⟨ax_t1 (List.mem_of_getElem? (i := 0) rfl), rfl⟩, ⟨ax_t1 (List.mem_of_getElem? (i := 98) rfl), rfl⟩, fun h => absurd h (by decide), fun h => absurd h (by decide)⟩
theorem ax_mw147 : ax_mwP 147 := ⟨⟨ax_t1 (List.mem_of_getElem? (i := 99) rfl), rfl⟩, ⟨ax_t1 (List.mem_of_getElem? (i := 0) rfl), rfl⟩, ⟨ax_t1 (List.mem_of_getElem? (i := 98) rfl), rfl⟩, fun h => absurd h (by decide), fun h => absurd h (by decide)⟩
theorem ax_mw148 : ax_mwP 148 := ⟨⟨ax_t1 (List.mem_of_getElem? (i := 99) rfl), rfl⟩, ⟨ax_t1 (List.mem_of_getElem? (i := 0) rfl), rfl⟩, ⟨ax_t1 (List.mem_of_getElem? (i := 98) rfl), rfl⟩, fun h => absurd h (by decide), fun h => absurd h (by decide)⟩
theorem ax_mw149 : ax_mwP 149 := ⟨⟨ax_t1 (List.mem_of_getElem? (i := 99) rfl), rfl⟩, ⟨ax_t1 (List.mem_of_getElem? (i := 0) rfl), rfl⟩, ⟨ax_t1 (List.mem_of_getElem? (i := 98) rfl), rfl⟩, fun h => absurd h (by decide), fun h => absurd h (by decide)⟩
theorem ax_mw150 : ax_mwP 150 := ⟨⟨ax_t3 (List.mem_of_getElem? (i := 226) rfl), rfl⟩, ⟨ax_t1 (List.mem_of_getElem? (i := 0) rfl), rfl⟩, ⟨ax_t3 (List.mem_of_getElem? (i := 225) rfl), rfl⟩, fun h => absurd h (by decide), fun h => absurd h (by decide)⟩
theorem ax_mw151 : ax_mwP 151 := ⟨⟨ax_t2 (List.mem_of_getElem? (i := 124) rfl), rfl⟩, ⟨ax_t1 (List.mem_of_getElem? (i := 19) rfl), rfl⟩, ⟨ax_t2 (List.mem_of_getElem? (i := 123) rfl), rfl⟩, fun h => absurd h (by decide), fun h => absurd h (by decide)⟩
theorem ax_mw152 : ax_mwP 152 := ⟨⟨ax_t1 (List.mem_of_getElem? (i := 42) rfl), rfl⟩, ⟨ax_t1 (List.mem_of_getElem? (i := 2) rfl), rfl⟩, ⟨ax_t1 (List.mem_of_getElem? (i := 41) rfl), rfl⟩, fun h => absurd h (by decide), fun _ => ⟨rfl, rfl, rfl⟩⟩
theorem ax_mw153 : ax_mwP 153 := ⟨⟨ax_t1 (List.mem_of_getElem? (i := 39) rfl), rfl⟩, ⟨ax_t1 (List.mem_of_getElem? (i := 3) rfl), rfl⟩, ⟨ax_t1 (List.mem_of_getElem? (i := 38) rfl), rfl⟩, fun h => absurd h (by decide), fun _ => ⟨rfl, rfl, rfl⟩⟩
theorem ax_mw154 : ax_mwP 154 := ⟨⟨ax_t1 (List.mem_of_getElem? (i := 36) rfl), rfl⟩, ⟨ax_t1 (List.mem_of_getElem? (i := 4) rfl), rfl⟩, ⟨ax_t1 (List.mem_of_getElem? (i := 35) rfl), rfl⟩, fun h => absurd h (by decide), fun _ => ⟨rfl, rfl, rfl⟩⟩
theorem ax_mw155 : ax_mwP 155 := ⟨⟨ax_t2 (List.mem_of_getElem? (i := 42) rfl), rfl⟩, ⟨ax_t1 (List.mem_of_getElem? (i := 4) rfl), rfl⟩, ⟨ax_t2 (List.mem_of_getElem? (i := 41) rfl), rfl⟩, fun _ => ⟨⟨ax_t0 (List.mem_of_getElem? (i := 5) rfl), rfl⟩, rfl, rfl⟩, fun h => absurd h (by decide)⟩
theorem ax_mw156 : ax_mwP 156 := ⟨⟨ax_t2 (List.mem_of_getElem? (i := 38) rfl), rfl⟩, ⟨ax_t1 (List.mem_of_getElem? (i := 4) rfl), rfl⟩, ⟨ax_t2 (List.mem_of_getElem? (i := 37) rfl), rfl⟩, fun _ => ⟨⟨ax_t0 (List.mem_of_getElem? (i := 4) rfl), rfl⟩, rfl, rfl⟩, fun h => absurd h (by decide)⟩
theorem ax_mw157 : ax_mwP 157 := ⟨⟨ax_t1 (List.mem_of_getElem? (i := 96) rfl), rfl⟩, ⟨ax_t1 (List.mem_of_getElem? (i := 4) rfl), rfl⟩, ⟨ax_t1 (List.mem_of_getElem? (i := 94) rfl), rfl⟩, fun _ => ⟨⟨ax_t1 (List.mem_of_getElem? (i := 95) rfl), rfl⟩, rfl, rfl⟩, fun h => absurd h (by decide)⟩
theorem ax_mw158 : ax_mwP 158 := ⟨⟨ax_t2 (List.mem_of_getElem? (i := 174) rfl), rfl⟩, ⟨ax_t1 (List.mem_of_getElem? (i := 4) rfl), rfl⟩, ⟨ax_t2 (List.mem_of_getElem? (i := 172) rfl), rfl⟩, fun _ => ⟨⟨ax_t2 (List.mem_of_getElem? (i := 173) rfl), rfl⟩, rfl, rfl⟩, fun h => absurd h (by decide)⟩
theorem ax_mw159 : ax_mwP 159 := ⟨⟨ax_t1 (List.mem_of_getElem? (i := 199) rfl), rfl⟩, ⟨ax_t1 (List.mem_of_getElem? (i := 4) rfl), rfl⟩, ⟨ax_t1 (List.mem_of_getElem? (i := 197) rfl), rfl⟩, fun _ => ⟨⟨ax_t1 (List.mem_of_getElem? (i := 198) rfl), rfl⟩, rfl, rfl⟩, fun h => absurd h (by decide)⟩
theorem ax_mw160 : ax_mwP 160 := ⟨⟨ax_t1 (List.mem_of_getElem? (i := 189) rfl), rfl⟩, ⟨ax_t1 (List.mem_of_getElem? (i := 4) rfl), rfl⟩, ⟨ax_t1 (List.mem_of_getElem? (i := 187) rfl), rfl⟩, fun _ => ⟨⟨ax_t1 (List.mem_of_getElem? (i := 188) rfl), rfl⟩, rfl, rfl⟩, fun h => absurd h (by decide)⟩
theorem ax_mw161 : ax_mwP 161 := ⟨⟨ax_t2 (List.mem_of_getElem? (i := 206) rfl), rfl⟩, ⟨ax_t1 (List.mem_of_getElem? (i := 4) rfl), rfl⟩, ⟨ax_t2 (List.mem_of_getElem? (i := 204) rfl), rfl⟩, fun _ => ⟨⟨ax_t2 (List.mem_of_getElem? (i := 205) rfl), rfl⟩, rfl, rfl⟩, fun h => absurd h (by decide)⟩
theorem ax_mw162 : ax_mwP 162 := ⟨⟨ax_t2 (List.mem_of_getElem? (i := 34) rfl), rfl⟩, ⟨ax_t1 (List.mem_of_getElem? (i := 4) rfl), rfl⟩, ⟨ax_t2 (List.mem_of_getElem? (i := 33) rfl), rfl⟩, fun _ => ⟨⟨ax_t0 (List.mem_of_getElem? (i := 3) rfl), rfl⟩, rfl, rfl⟩, fun h => absurd h (by decide)⟩
theorem ax_mw163 : ax_mwP 163 := ⟨⟨ax_t2 (List.mem_of_getElem? (i := 30) rfl), rfl⟩, ⟨ax_t1 (List.mem_of_getElem? (i := 4) rfl), rfl⟩, ⟨ax_t2 (List.mem_of_getElem? (i := 28) rfl), rfl⟩, fun _ => ⟨⟨ax_t2 (List.mem_of_getElem? (i := 29) rfl), rfl⟩, rfl, rfl⟩, fun h => absurd h (by decide)⟩
theorem ax_mw164 : ax_mwP 164 := ⟨⟨ax_t2 (List.mem_of_getElem? (i := 146) rfl), rfl⟩, ⟨ax_t1 (List.mem_of_getElem? (i := 4) rfl), rfl⟩, ⟨ax_t2 (List.mem_of_getElem? (i := 144) rfl), rfl⟩, fun _ => ⟨⟨ax_t2 (List.mem_of_getElem? (i := 145) rfl), rfl⟩, rfl, rfl⟩, fun h => absurd h (by decide)⟩
theorem ax_mw165 : ax_mwP 165 := ⟨⟨ax_t2 (List.mem_of_getElem? (i := 150) rfl), rfl⟩, ⟨ax_t1 (List.mem_of_getElem? (i := 4) rfl), rfl⟩, ⟨ax_t2 (List.mem_of_getElem? (i := 149) rfl), rfl⟩, fun _ => ⟨⟨ax_t0 (List.mem_of_getElem? (i := 8) rfl), rfl⟩, rfl, rfl⟩, fun h => absurd h (by decide)⟩
theorem ax_mw166 : ax_mwP 166 := ⟨⟨ax_t2 (List.mem_of_getElem? (i := 55) rfl), rfl⟩, ⟨ax_t1 (List.mem_of_getElem? (i := 16) rfl), rfl⟩, ⟨ax_t2 (List.mem_of_getElem? (i := 54) rfl), rfl⟩, fun h => absurd h (by decide), fun h => absurd h (by decide)⟩
theorem ax_mw167 : ax_mwP 167 := ⟨⟨ax_t2 (List.mem_of_getElem? (i := 73) rfl), rfl⟩, ⟨ax_t1 (List.mem_of_getElem? (i := 16) rfl), rfl⟩, ⟨ax_t2 (List.mem_of_getElem? (i := 72) rfl), rfl⟩, fun h => absurd h (by decide), fun h => absurd h (by decide)⟩
theorem ax_mw168 : ax_mwP 168 := ⟨⟨ax_t1 (List.mem_of_getElem? (i := 192) rfl), rfl⟩, ⟨ax_t1 (List.mem_of_getElem? (i := 10) rfl), rfl⟩, ⟨ax_t1 (List.mem_of_getElem? (i := 191) rfl), rfl⟩, fun h => absurd h (by decide), fun h => absurd h (by decide)⟩
theorem ax_mw169 : ax_mwP 169 := ⟨⟨ax_t2 (List.mem_of_getElem? (i := 45) rfl), rfl⟩, ⟨ax_t1 (List.mem_of_getElem? (i := 14) rfl), rfl⟩, ⟨ax_t2 (List.mem_of_getElem? (i := 44) rfl), rfl⟩, fun h => absurd h (by decide), fun h => absurd h (by decide)⟩
theorem ax_mw170 : ax_mwP 170 := ⟨⟨ax_t1 (List.mem_of_getElem? (i := 195) rfl), rfl⟩, ⟨ax_t1 (List.mem_of_getElem? (i := 11) rfl), rfl⟩, ⟨ax_t1 (List.mem_of_getElem? (i := 194) rfl), rfl⟩, fun h => absurd h (by decide), fun h => absurd h (by decide)⟩
theorem ax_mw171 : ax_mwP 171 := ⟨⟨ax_t1 (List.mem_of_getElem? (i := 103) rfl), rfl⟩, ⟨ax_t1 (List.mem_of_getElem? (i := 0) rfl), rfl⟩, ⟨ax_t1 (List.mem_of_getElem? (i := 102) rfl), rfl⟩, fun h => absurd h (by decide), fun h => absurd h (by decide)⟩
theorem ax_mw172 : ax_mwP 172 := ⟨⟨ax_t2 (List.mem_of_getElem? (i := 87) rfl), rfl⟩, ⟨ax_t1 (List.mem_of_getElem? (i := 0) rfl), rfl⟩, ⟨ax_t2 (List.mem_of_getElem? (i := 86) rfl), rfl⟩, fun h => absurd h (by decide), fun h => absurd h (by decide)⟩
theorem ax_mw173 : ax_mwP 173 := ⟨⟨ax_t2 (List.mem_of_getElem? (i := 130) rfl), rfl⟩, ⟨ax_t1 (List.mem_of_getElem? (i := 0) rfl), rfl⟩, ⟨ax_t2 (List.mem_of_getElem? (i := 129) rfl), rfl⟩, fun h => absurd h (by decide), fun h => absurd h (by decide)⟩
theorem ax_mw174 : ax_mwP 174 := ⟨⟨ax_t2 (List.mem_of_getElem? (i := 154) rfl), rfl⟩, ⟨ax_t1 (List.mem_of_getElem? (i := 0) rfl), rfl⟩, ⟨ax_t2 (List.mem_of_getElem? (i := 153) rfl), rfl⟩, fun h => absurd h (by decide), fun h => absurd h (by decide)⟩
theorem ax_mw175 : ax_mwP 175 := ⟨⟨ax_t2 (List.mem_of_getElem? (i := 161) rfl), rfl⟩, ⟨ax_t1 (List.mem_of_getElem? (i := 0) rfl), rfl⟩, ⟨ax_t2 (List.mem_of_getElem? (i := 160) rfl), rfl⟩, fun h => absurd h (by decide), fun h => absurd h (by decide)⟩
theorem ax_mw176 : ax_mwP 176 := ⟨⟨ax_t3 (List.mem_of_getElem? (i := 137) rfl), rfl⟩, ⟨ax_t1 (List.mem_of_getElem? (i := 0) rfl), rfl⟩, ⟨ax_t3 (List.mem_of_getElem? (i := 136) rfl), rfl⟩, fun h => absurd h (by decide), fun h => absurd h (by decide)⟩
theorem ax_mw177 : ax_mwP 177 := ⟨⟨ax_t3 (List.mem_of_getElem? (i := 150) rfl), rfl⟩, ⟨ax_t1 (List.mem_of_getElem? (i := 0) rfl), rfl⟩, ⟨ax_t3 (List.mem_of_getElem? (i := 149) rfl), rfl⟩, fun h => absurd h (by decide), fun h => absurd h (by decide)⟩
theorem ax_mw178 : ax_mwP 178 := ⟨⟨ax_t3 (List.mem_of_getElem? (i := 237) rfl), rfl⟩, ⟨ax_t1 (List.mem_of_getElem? (i := 0) rfl), rfl⟩, ⟨ax_t3 (List.mem_of_getElem? (i := 236) rfl), rfl⟩, fun h => absurd h (by decide), fun h => absurd h (by decide)⟩
theorem ax_mw179 : ax_mwP 179 := ⟨⟨ax_t4 (List.mem_of_getElem? (i := 35) rfl), rfl⟩, ⟨ax_t1 (List.mem_of_getElem? (i := 0) rfl), rfl⟩, ⟨ax_t4 (List.mem_of_getElem? (i := 34) rfl), rfl⟩, fun h => absurd h (by decide), fun h => absurd h (by decide)⟩
theorem ax_mw180 : ax_mwP 180 := ⟨⟨ax_t1 (List.mem_of_getElem? (i := 99) rfl), rfl⟩, ⟨ax_t1 (List.mem_of_getElem? (i := 0) rfl), rfl⟩, ⟨ax_t1 (List.mem_of_getElem? (i := 98) rfl), rfl⟩, fun h => absurd h (by decide), fun h => absurd h (by decide)⟩
theorem ax_mw181 : ax_mwP 181 := ⟨⟨ax_t1 (List.mem_of_getElem? (i := 99) rfl), rfl⟩, ⟨ax_t1 (List.mem_of_getElem? (i := 0) rfl), rfl⟩, ⟨ax_t1 (List.mem_of_getElem? (i := 98) rfl), rfl⟩, fun h => absurd h (by decide), fun h => absurd h (by decide)⟩
theorem ax_mw182 : ax_mwP 182 := ⟨⟨ax_t1 (List.mem_of_getElem? (i := 99) rfl), rfl⟩, ⟨ax_t1 (List.mem_of_getElem? (i := 0) rfl), rfl⟩, ⟨ax_t1 (List.mem_of_getElem? (i := 98) rfl), rfl⟩, fun h => absurd h (by decide), fun h => absurd h (by decide)⟩
theorem ax_mw183 : ax_mwP 183 := ⟨⟨ax_t1 (List.mem_of_getElem? (i := 99) rfl), rfl⟩, ⟨ax_t1 (List.mem_of_getElem? (i := 0) rfl), rfl⟩, ⟨ax_t1 (List.mem_of_getElem? (i := 98) rfl), rfl⟩, fun h => absurd h (by decide), fun h => absurd h (by decide)⟩
theorem ax_mw184 : ax_mwP 184 := ⟨⟨ax_t1 (List.mem_of_getElem? (i := 99) rfl), rfl⟩, ⟨ax_t1 (List.mem_of_getElem? (i := 0) rfl), rfl⟩, ⟨ax_t1 (List.mem_of_getElem? (i := 98) rfl), rfl⟩, fun h => absurd h (by decide), fun h => absurd h (by decide)⟩
theorem ax_mw185 : ax_mwP 185 := ⟨⟨ax_t1 (List.mem_of_getElem? (i := 99) rfl), rfl⟩, ⟨ax_t1 (List.mem_of_getElem? (i := 0) rfl), rfl⟩, ⟨ax_t1 (List.mem_of_getElem? (i := 98) rfl), rfl⟩, fun h => absurd h (by decide), fun h => absurd h (by decide)⟩
theorem ax_mw186 : ax_mwP 186 := ⟨⟨ax_t1 (List.mem_of_getElem? (i := 99) rfl), rfl⟩, ⟨ax_t1 (List.mem_of_getElem? (i := 0) rfl), rfl⟩, ⟨ax_t1 (List.mem_of_getElem? (i := 98) rfl), rfl⟩, fun h => absurd h (by decide), fun h => absurd h (by decide)⟩
theorem ax_mw187 : ax_mwP 187 := ⟨⟨ax_t1 (List.mem_of_getElem? (i := 99) rfl), rfl⟩, ⟨ax_t1 (List.mem_of_getElem? (i := 0) rfl), rfl⟩, ⟨ax_t1 (List.mem_of_getElem? (i := 98) rfl), rfl⟩, fun h => absurd h (by decide), fun h => absurd h (by decide)⟩
theorem ax_mw188 : ax_mwP 188 := ⟨⟨ax_t1 (List.mem_of_getElem? (i := 99) rfl), rfl⟩, ⟨ax_t1 (List.mem_of_getElem? (i := 0) rfl), rfl⟩, ⟨ax_t1 (List.mem_of_getElem? (i := 98) rfl), rfl⟩, fun h => absurd h (by decide), fun h => absurd h (by decide)⟩
theorem ax_mw189 : ax_mwP 189 := ⟨⟨ax_t1 (List.mem_of_getElem? (i := 99) rfl), rfl⟩, ⟨ax_t1 (List.mem_of_getElem? (i := 0) rfl), rfl⟩, ⟨ax_t1 (List.mem_of_getElem? (i := 98) rfl), rfl⟩, fun h => absurd h (by decide), fun h => absurd h (by decide)⟩
theorem ax_mw190 : ax_mwP 190 := ⟨⟨ax_t1 (List.mem_of_getElem? (i := 99) rfl), rfl⟩, ⟨ax_t1 (List.mem_of_getElem? (i := 0) rfl), rfl⟩, ⟨ax_t1 (List.mem_of_getElem? (i := 98) rfl), rfl⟩, fun h => absurd h (by decide), fun h => absurd h (by decide)⟩
theorem ax_mw191 : ax_mwP 191 := ⟨⟨ax_t1 (List.mem_of_getElem? (i := 99) rfl), rfl⟩, ⟨ax_t1 (List.mem_of_getElem? (i := 0) rfl), rfl⟩, ⟨ax_t1 (List.mem_of_getElem? (i := 98) rfl), rfl⟩, fun h => absurd h (by decide), fun h => absurd h (by decide)⟩
theorem ax_mw192 : ax_mwP 192 := ⟨⟨ax_t1 (List.mem_of_getElem? (i := 99) rfl), rfl⟩, ⟨ax_t1 (List.mem_of_getElem? (i := 0) rfl), rfl⟩, ⟨ax_t1 (List.mem_of_getElem? (i := 98) rfl), rfl⟩, fun h => absurd h (by decide), fun h => absurd h (by decide)⟩
theorem ax_mw193 : ax_mwP 193 := ⟨⟨ax_t1 (List.mem_of_getElem? (i := 99) rfl), rfl⟩, ⟨ax_t1 (List.mem_of_getElem? (i := 0) rfl), rfl⟩, ⟨ax_t1 (List.mem_of_getElem? (i := 98) rfl), rfl⟩, fun h => absurd h (by decide), fun h => absurd h (by decide)⟩
theorem ax_mw194 : ax_mwP 194 := ⟨⟨ax_t1 (List.mem_of_getElem? (i := 99) rfl), rfl⟩, ⟨ax_t1 (List.mem_of_getElem? (i := 0) rfl), rfl⟩, ⟨ax_t1 (List.mem_of_getElem? (i := 98) rfl), rfl⟩, fun h => absurd h (by decide), fun h => absurd h (by decide)⟩
theorem ax_mw : ∀ y, y < 195 → ax_mwP y := by
  intro y hy
  rcases Nat.lt_or_ge y 97 with hy97 | hy97
  · skip
    rcases Nat.lt_or_ge y 48 with hy48 | hy48
    · skip
      rcases Nat.lt_or_ge y 24 with hy24 | hy24
      · skip
        rcases Nat.lt_or_ge y 12 with hy12 | hy12
        · skip
          rcases Nat.lt_or_ge y 6 with hy6 | hy6
          · skip
            rcases Nat.lt_or_ge y 3 with hy3 | hy3
            · skip
              rcases Nat.lt_or_ge y 1 with hy1 | hy1
              · skip
                obtain rfl : y = 0 := by omega
                exact ax_mw0
              · skip
                rcases Nat.lt_or_ge y 2 with hy2 | hy2
                · skip
                  obtain rfl : y = 1 := by omega
                  exact ax_mw1
                · skip
                  obtain rfl : y = 2 := by omega
                  exact ax_mw2
            · skip
              rcases Nat.lt_or_ge y 4 with hy4 | hy4
              · skip
                obtain rfl : y = 3 := by omega
                exact ax_mw3
              · skip
                rcases Nat.lt_or_ge y 5 with hy5 | hy5
                · skip
                  obtain rfl : y = 4 := by omega
                  exact ax_mw4
                · skip
                  obtain rfl : y = 5 := by omega
                  exact ax_mw5
          · skip
            rcases Nat.lt_or_ge y 9 with hy9 | hy9
            · skip
              rcases Nat.lt_or_ge y 7 with hy7 | hy7
              · skip
                obtain rfl : y = 6 := by omega
                exact ax_mw6
              · skip
                rcases Nat.lt_or_ge y 8 with hy8 | hy8
                · skip
                  obtain rfl : y = 7 := by omega
                  exact ax_mw7
                · skip
                  obtain rfl : y = 8 := by omega
                  exact ax_mw8
            · skip
              rcases Nat.lt_or_ge y 10 with hy10 | hy10
              · skip
                obtain rfl : y = 9 := by omega
                exact ax_mw9
              · skip
                rcases Nat.lt_or_ge y 11 with hy11 | hy11
                · skip
                  obtain rfl : y = 10 := by omega
                  exact ax_mw10
                · skip
                  obtain rfl : y = 11 := by omega
                  exact ax_mw11
        · skip
          rcases Nat.lt_or_ge y 18 with hy18 | hy18
          · skip
            rcases Nat.lt_or_ge y 15 with hy15 | hy15
            · skip
              rcases Nat.lt_or_ge y 13 with hy13 | hy13
              · skip
                obtain rfl : y = 12 := by omega
                exact ax_mw12
              · skip
                rcases Nat.lt_or_ge y 14 with hy14 | hy14
                · skip
                  obtain rfl : y = 13 := by omega
                  exact ax_mw13
                · skip
                  obtain rfl : y = 14 := by omega
                  exact ax_mw14
            · skip
              rcases Nat.lt_or_ge y 16 with hy16 | hy16
              · skip
                obtain rfl : y = 15 := by omega
                exact ax_mw15
              · skip
                rcases Nat.lt_or_ge y 17 with hy17 | hy17
                · skip
                  obtain rfl : y = 16 := by omega
                  exact ax_mw16
                · skip
                  obtain rfl : y = 17 := by omega
                  exact ax_mw17
          · skip
            rcases Nat.lt_or_ge y 21 with hy21 | hy21
            · skip
              rcases Nat.lt_or_ge y 19 with hy19 | hy19
              · skip
                obtain rfl : y = 18 := by omega
                exact ax_mw18
              · skip
                rcases Nat.lt_or_ge y 20 with hy20 | hy20
                · skip
                  obtain rfl : y = 19 := by omega
                  exact ax_mw19
                · skip
                  obtain rfl : y = 20 := by omega
                  exact ax_mw20
            · skip
              rcases Nat.lt_or_ge y 22 with hy22 | hy22
              · skip
                obtain rfl : y = 21 := by omega
                exact ax_mw21
              · skip
                rcases Nat.lt_or_ge y 23 with hy23 | hy23
                · skip
                  obtain rfl : y = 22 := by omega
                  exact ax_mw22
                · skip
                  obtain rfl : y = 23 := by omega
                  exact ax_mw23
      · skip
        rcases Nat.lt_or_ge y 36 with hy36 | hy36
        · skip
          rcases Nat.lt_or_ge y 30 with hy30 | hy30
          · skip
            rcases Nat.lt_or_ge y 27 with hy27 | hy27
            · skip
              rcases Nat.lt_or_ge y 25 with hy25 | hy25
              · skip
                obtain rfl : y = 24 := by omega
                exact ax_mw24
              · skip
                rcases Nat.lt_or_ge y 26 with hy26 | hy26
                · skip
                  obtain rfl : y = 25 := by omega
                  exact ax_mw25
                · skip
                  obtain rfl : y = 26 := by omega
                  exact ax_mw26
            · skip
              rcases Nat.lt_or_ge y 28 with hy28 | hy28
              · skip
                obtain rfl : y = 27 := by omega
                exact ax_mw27
              · skip
                rcases Nat.lt_or_ge y 29 with hy29 | hy29
                · skip
                  obtain rfl : y = 28 := by omega
                  exact ax_mw28
                · skip
                  obtain rfl : y = 29 := by omega
                  exact ax_mw29
          · skip
            rcases Nat.lt_or_ge y 33 with hy33 | hy33
            · skip
              rcases Nat.lt_or_ge y 31 with hy31 | hy31
              · skip
                obtain rfl : y = 30 := by omega
                exact ax_mw30
              · skip
                rcases Nat.lt_or_ge y 32 with hy32 | hy32
                · skip
                  obtain rfl : y = 31 := by omega
                  exact ax_mw31
                · skip
                  obtain rfl : y = 32 := by omega
                  exact ax_mw32
            · skip
              rcases Nat.lt_or_ge y 34 with hy34 | hy34
              · skip
                obtain rfl : y = 33 := by omega
                exact ax_mw33
              · skip
                rcases Nat.lt_or_ge y 35 with hy35 | hy35
                · skip
                  obtain rfl : y = 34 := by omega
                  exact ax_mw34
                · skip
                  obtain rfl : y = 35 := by omega
                  exact ax_mw35
        · skip
          rcases Nat.lt_or_ge y 42 with hy42 | hy42
          · skip
            rcases Nat.lt_or_ge y 39 with hy39 | hy39
            · skip
              rcases Nat.lt_or_ge y 37 with hy37 | hy37
              · skip
                obtain rfl : y = 36 := by omega
                exact ax_mw36
              · skip
                rcases Nat.lt_or_ge y 38 with hy38 | hy38
                · skip
                  obtain rfl : y = 37 := by omega
                  exact ax_mw37
                · skip
                  obtain rfl : y = 38 := by omega
                  exact ax_mw38
            · skip
              rcases Nat.lt_or_ge y 40 with hy40 | hy40
              · skip
                obtain rfl : y = 39 := by omega
                exact ax_mw39
              · skip
                rcases Nat.lt_or_ge y 41 with hy41 | hy41
                · skip
                  obtain rfl : y = 40 := by omega
                  exact ax_mw40
                · skip
                  obtain rfl : y = 41 := by omega
                  exact ax_mw41
          · skip
            rcases Nat.lt_or_ge y 45 with hy45 | hy45
            · skip
              rcases Nat.lt_or_ge y 43 with hy43 | hy43
              · skip
                obtain rfl : y = 42 := by omega
                exact ax_mw42
              · skip
                rcases Nat.lt_or_ge y 44 with hy44 | hy44
                · skip
                  obtain rfl : y = 43 := by omega
                  exact ax_mw43
                · skip
                  obtain rfl : y = 44 := by omega
                  exact ax_mw44
            · skip
              rcases Nat.lt_or_ge y 46 with hy46 | hy46
              · skip
                obtain rfl : y = 45 := by omega
                exact ax_mw45
              · skip
                rcases Nat.lt_or_ge y 47 with hy47 | hy47
                · skip
                  obtain rfl : y = 46 := by omega
                  exact ax_mw46
                · skip
                  obtain rfl : y = 47 := by omega
                  exact ax_mw47
    · skip
      rcases Nat.lt_or_ge y 72 with hy72 | hy72
      · skip
        rcases Nat.lt_or_ge y 60 with hy60 | hy60
        · skip
          rcases Nat.lt_or_ge y 54 with hy54 | hy54
          · skip
            rcases Nat.lt_or_ge y 51 with hy51 | hy51
            · skip
              rcases Nat.lt_or_ge y 49 with hy49 | hy49
              · skip
                obtain rfl : y = 48 := by omega
                exact ax_mw48
              · skip
                rcases Nat.lt_or_ge y 50 with hy50 | hy50
                · skip
                  obtain rfl : y = 49 := by omega
                  exact ax_mw49
                · skip
                  obtain rfl : y = 50 := by omega
                  exact ax_mw50
            · skip
              rcases Nat.lt_or_ge y 52 with hy52 | hy52
              · skip
                obtain rfl : y = 51 := by omega
                exact ax_mw51
              · skip
                rcases Nat.lt_or_ge y 53 with hy53 | hy53
                · skip
                  obtain rfl : y = 52 := by omega
                  exact ax_mw52
                · skip
                  obtain rfl : y = 53 := by omega
                  exact ax_mw53
          · skip
            rcases Nat.lt_or_ge y 57 with hy57 | hy57
            · skip
              rcases Nat.lt_or_ge y 55 with hy55 | hy55
              · skip
                obtain rfl : y = 54 := by omega
                exact ax_mw54
              · skip
                rcases Nat.lt_or_ge y 56 with hy56 | hy56
                · skip
                  obtain rfl : y = 55 := by omega
                  exact ax_mw55
                · skip
                  obtain rfl : y = 56 := by omega
                  exact ax_mw56
            · skip
              rcases Nat.lt_or_ge y 58 with hy58 | hy58
              · skip
                obtain rfl : y = 57 := by omega
                exact ax_mw57
              · skip
                rcases Nat.lt_or_ge y 59 with hy59 | hy59
                · skip
                  obtain rfl : y = 58 := by omega
                  exact ax_mw58
                · skip
                  obtain rfl : y = 59 := by omega
                  exact ax_mw59
        · skip
          rcases Nat.lt_or_ge y 66 with hy66 | hy66
          · skip
            rcases Nat.lt_or_ge y 63 with hy63 | hy63
            · skip
              rcases Nat.lt_or_ge y 61 with hy61 | hy61
              · skip
                obtain rfl : y = 60 := by omega
                exact ax_mw60
              · skip
                rcases Nat.lt_or_ge y 62 with hy62 | hy62
                · skip
                  obtain rfl : y = 61 := by omega
                  exact ax_mw61
                · skip
                  obtain rfl : y = 62 := by omega
                  exact ax_mw62
            · skip
              rcases Nat.lt_or_ge y 64 with hy64 | hy64
              · skip
                obtain rfl : y = 63 := by omega
                exact ax_mw63
              · skip
                rcases Nat.lt_or_ge y 65 with hy65 | hy65
                · skip
                  obtain rfl : y = 64 := by omega
                  exact ax_mw64
                · skip
                  obtain rfl : y = 65 := by omega
                  exact ax_mw65
          · skip
            rcases Nat.lt_or_ge y 69 with hy69 | hy69
            · skip
              rcases Nat.lt_or_ge y 67 with hy67 | hy67
              · skip
                obtain rfl : y = 66 := by omega
                exact ax_mw66
              · skip
                rcases Nat.lt_or_ge y 68 with hy68 | hy68
                · skip
                  obtain rfl : y = 67 := by omega
                  exact ax_mw67
                · skip
                  obtain rfl : y = 68 := by omega
                  exact ax_mw68
            · skip
              rcases Nat.lt_or_ge y 70 with hy70 | hy70
              · skip
                obtain rfl : y = 69 := by omega
                exact ax_mw69
              · skip
                rcases Nat.lt_or_ge y 71 with hy71 | hy71
                · skip
                  obtain rfl : y = 70 := by omega
                  exact ax_mw70
                · skip
                  obtain rfl : y = 71 := by omega
                  exact ax_mw71
      · skip
        rcases Nat.lt_or_ge y 84 with hy84 | hy84
        · skip
          rcases Nat.lt_or_ge y 78 with hy78 | hy78
          · skip
            rcases Nat.lt_or_ge y 75 with hy75 | hy75
            · skip
              rcases Nat.lt_or_ge y 73 with hy73 | hy73
              · skip
                obtain rfl : y = 72 := by omega
                exact ax_mw72
              · skip
                rcases Nat.lt_or_ge y 74 with hy74 | hy74
                · skip
                  obtain rfl : y = 73 := by omega
                  exact ax_mw73
                · skip
                  obtain rfl : y = 74 := by omega
                  exact ax_mw74
            · skip
              rcases Nat.lt_or_ge y 76 with hy76 | hy76
              · skip
                obtain rfl : y = 75 := by omega
                exact ax_mw75
              · skip
                rcases Nat.lt_or_ge y 77 with hy77 | hy77
                · skip
                  obtain rfl : y = 76 := by omega
                  exact ax_mw76
                · skip
                  obtain rfl : y = 77 := by omega
                  exact ax_mw77
          · skip
            rcases Nat.lt_or_ge y 81 with hy81 | hy81
            · skip
              rcases Nat.lt_or_ge y 79 with hy79 | hy79
              · skip
                obtain rfl : y = 78 := by omega
                exact ax_mw78
              · skip
                rcases Nat.lt_or_ge y 80 with hy80 | hy80
                · skip
                  obtain rfl : y = 79 := by omega
                  exact ax_mw79
                · skip
                  obtain rfl : y = 80 := by omega
                  exact ax_mw80
            · skip
              rcases Nat.lt_or_ge y 82 with hy82 | hy82
              · skip
                obtain rfl : y = 81 := by omega
                exact ax_mw81
              · skip
                rcases Nat.lt_or_ge y 83 with hy83 | hy83
                · skip
                  obtain rfl : y = 82 := by omega
                  exact ax_mw82
                · skip
                  obtain rfl : y = 83 := by omega
                  exact ax_mw83
        · skip
          rcases Nat.lt_or_ge y 90 with hy90 | hy90
          · skip
            rcases Nat.lt_or_ge y 87 with hy87 | hy87
            · skip
              rcases Nat.lt_or_ge y 85 with hy85 | hy85
              · skip
                obtain rfl : y = 84 := by omega
                exact ax_mw84
              · skip
                rcases Nat.lt_or_ge y 86 with hy86 | hy86
                · skip
                  obtain rfl : y = 85 := by omega
                  exact ax_mw85
                · skip
                  obtain rfl : y = 86 := by omega
                  exact ax_mw86
            · skip
              rcases Nat.lt_or_ge y 88 with hy88 | hy88
              · skip
                obtain rfl : y = 87 := by omega
                exact ax_mw87
              · skip
                rcases Nat.lt_or_ge y 89 with hy89 | hy89
                · skip
                  obtain rfl : y = 88 := by omega
                  exact ax_mw88
                · skip
                  obtain rfl : y = 89 := by omega
                  exact ax_mw89
          · skip
            rcases Nat.lt_or_ge y 93 with hy93 | hy93
            · skip
              rcases Nat.lt_or_ge y 91 with hy91 | hy91
              · skip
                obtain rfl : y = 90 := by omega
                exact ax_mw90
              · skip
                rcases Nat.lt_or_ge y 92 with hy92 | hy92
                · skip
                  obtain rfl : y = 91 := by omega
                  exact ax_mw91
                · skip
                  obtain rfl : y = 92 := by omega
                  exact ax_mw92
            · skip
              rcases Nat.lt_or_ge y 95 with hy95 | hy95
              · skip
                rcases Nat.lt_or_ge y 94 with hy94 | hy94
                · skip
                  obtain rfl : y = 93 := by omega
                  exact ax_mw93
                · skip
                  obtain rfl : y = 94 := by omega
                  exact ax_mw94
              · skip
                rcases Nat.lt_or_ge y 96 with hy96 | hy96
                · skip
                  obtain rfl : y = 95 := by omega
                  exact ax_mw95
                · skip
                  obtain rfl : y = 96 := by omega
                  exact ax_mw96
  · skip
    rcases Nat.lt_or_ge y 146 with hy146 | hy146
    · skip
      rcases Nat.lt_or_ge y 121 with hy121 | hy121
      · skip
        rcases Nat.lt_or_ge y 109 with hy109 | hy109
        · skip
          rcases Nat.lt_or_ge y 103 with hy103 | hy103
          · skip
            rcases Nat.lt_or_ge y 100 with hy100 | hy100
            · skip
              rcases Nat.lt_or_ge y 98 with hy98 | hy98
              · skip
                obtain rfl : y = 97 := by omega
                exact ax_mw97
              · skip
                rcases Nat.lt_or_ge y 99 with hy99 | hy99
                · skip
                  obtain rfl : y = 98 := by omega
                  exact ax_mw98
                · skip
                  obtain rfl : y = 99 := by omega
                  exact ax_mw99
            · skip
              rcases Nat.lt_or_ge y 101 with hy101 | hy101
              · skip
                obtain rfl : y = 100 := by omega
                exact ax_mw100
              · skip
                rcases Nat.lt_or_ge y 102 with hy102 | hy102
                · skip
                  obtain rfl : y = 101 := by omega
                  exact ax_mw101
                · skip
                  obtain rfl : y = 102 := by omega
                  exact ax_mw102
          · skip
            rcases Nat.lt_or_ge y 106 with hy106 | hy106
            · skip
              rcases Nat.lt_or_ge y 104 with hy104 | hy104
              · skip
                obtain rfl : y = 103 := by omega
                exact ax_mw103
              · skip
                rcases Nat.lt_or_ge y 105 with hy105 | hy105
                · skip
                  obtain rfl : y = 104 := by omega
                  exact ax_mw104
                · skip
                  obtain rfl : y = 105 := by omega
                  exact ax_mw105
            · skip
              rcases Nat.lt_or_ge y 107 with hy107 | hy107
              · skip
                obtain rfl : y = 106 := by omega
                exact ax_mw106
              · skip
                rcases Nat.lt_or_ge y 108 with hy108 | hy108
                · skip
                  obtain rfl : y = 107 := by omega
                  exact ax_mw107
                · skip
                  obtain rfl : y = 108 := by omega
                  exact ax_mw108
        · skip
          rcases Nat.lt_or_ge y 115 with hy115 | hy115
          · skip
            rcases Nat.lt_or_ge y 112 with hy112 | hy112
            · skip
              rcases Nat.lt_or_ge y 110 with hy110 | hy110
              · skip
                obtain rfl : y = 109 := by omega
                exact ax_mw109
              · skip
                rcases Nat.lt_or_ge y 111 with hy111 | hy111
                · skip
                  obtain rfl : y = 110 := by omega
                  exact ax_mw110
                · skip
                  obtain rfl : y = 111 := by omega
                  exact ax_mw111
            · skip
              rcases Nat.lt_or_ge y 113 with hy113 | hy113
              · skip
                obtain rfl : y = 112 := by omega
                exact ax_mw112
              · skip
                rcases Nat.lt_or_ge y 114 with hy114 | hy114
                · skip
                  obtain rfl : y = 113 := by omega
                  exact ax_mw113
                · skip
                  obtain rfl : y = 114 := by omega
                  exact ax_mw114
          · skip
            rcases Nat.lt_or_ge y 118 with hy118 | hy118
            · skip
              rcases Nat.lt_or_ge y 116 with hy116 | hy116
              · skip
                obtain rfl : y = 115 := by omega
                exact ax_mw115
              · skip
                rcases Nat.lt_or_ge y 117 with hy117 | hy117
                · skip
                  obtain rfl : y = 116 := by omega
                  exact ax_mw116
                · skip
                  obtain rfl : y = 117 := by omega
                  exact ax_mw117
            · skip
              rcases Nat.lt_or_ge y 119 with hy119 | hy119
              · skip
                obtain rfl : y = 118 := by omega
                exact ax_mw118
              · skip
                rcases Nat.lt_or_ge y 120 with hy120 | hy120
                · skip
                  obtain rfl : y = 119 := by omega
                  exact ax_mw119
                · skip
                  obtain rfl : y = 120 := by omega
                  exact ax_mw120
      · skip
        rcases Nat.lt_or_ge y 133 with hy133 | hy133
        · skip
          rcases Nat.lt_or_ge y 127 with hy127 | hy127
          · skip
            rcases Nat.lt_or_ge y 124 with hy124 | hy124
            · skip
              rcases Nat.lt_or_ge y 122 with hy122 | hy122
              · skip
                obtain rfl : y = 121 := by omega
                exact ax_mw121
              · skip
                rcases Nat.lt_or_ge y 123 with hy123 | hy123
                · skip
                  obtain rfl : y = 122 := by omega
                  exact ax_mw122
                · skip
                  obtain rfl : y = 123 := by omega
                  exact ax_mw123
            · skip
              rcases Nat.lt_or_ge y 125 with hy125 | hy125
              · skip
                obtain rfl : y = 124 := by omega
                exact ax_mw124
              · skip
                rcases Nat.lt_or_ge y 126 with hy126 | hy126
                · skip
                  obtain rfl : y = 125 := by omega
                  exact ax_mw125
                · skip
                  obtain rfl : y = 126 := by omega
                  exact ax_mw126
          · skip
            rcases Nat.lt_or_ge y 130 with hy130 | hy130
            · skip
              rcases Nat.lt_or_ge y 128 with hy128 | hy128
              · skip
                obtain rfl : y = 127 := by omega
                exact ax_mw127
              · skip
                rcases Nat.lt_or_ge y 129 with hy129 | hy129
                · skip
                  obtain rfl : y = 128 := by omega
                  exact ax_mw128
                · skip
                  obtain rfl : y = 129 := by omega
                  exact ax_mw129
            · skip
              rcases Nat.lt_or_ge y 131 with hy131 | hy131
              · skip
                obtain rfl : y = 130 := by omega
                exact ax_mw130
              · skip
                rcases Nat.lt_or_ge y 132 with hy132 | hy132
                · skip
                  obtain rfl : y = 131 := by omega
                  exact ax_mw131
                · skip
                  obtain rfl : y = 132 := by omega
                  exact ax_mw132
        · skip
          rcases Nat.lt_or_ge y 139 with hy139 | hy139
          · skip
            rcases Nat.lt_or_ge y 136 with hy136 | hy136
            · skip
              rcases Nat.lt_or_ge y 134 with hy134 | hy134
              · skip
                obtain rfl : y = 133 := by omega
                exact ax_mw133
              · skip
                rcases Nat.lt_or_ge y 135 with hy135 | hy135
                · skip
                  obtain rfl : y = 134 := by omega
                  exact ax_mw134
                · skip
                  obtain rfl : y = 135 := by omega
                  exact ax_mw135
            · skip
              rcases Nat.lt_or_ge y 137 with hy137 | hy137
              · skip
                obtain rfl : y = 136 := by omega
                exact ax_mw136
              · skip
                rcases Nat.lt_or_ge y 138 with hy138 | hy138
                · skip
                  obtain rfl : y = 137 := by omega
                  exact ax_mw137
                · skip
                  obtain rfl : y = 138 := by omega
                  exact ax_mw138
          · skip
            rcases Nat.lt_or_ge y 142 with hy142 | hy142
            · skip
              rcases Nat.lt_or_ge y 140 with hy140 | hy140
              · skip
                obtain rfl : y = 139 := by omega
                exact ax_mw139
              · skip
                rcases Nat.lt_or_ge y 141 with hy141 | hy141
                · skip
                  obtain rfl : y = 140 := by omega
                  exact ax_mw140
                · skip
                  obtain rfl : y = 141 := by omega
                  exact ax_mw141
            · skip
              rcases Nat.lt_or_ge y 144 with hy144 | hy144
              · skip
                rcases Nat.lt_or_ge y 143 with hy143 | hy143
                · skip
                  obtain rfl : y = 142 := by omega
                  exact ax_mw142
                · skip
                  obtain rfl : y = 143 := by omega
                  exact ax_mw143
              · skip
                rcases Nat.lt_or_ge y 145 with hy145 | hy145
                · skip
                  obtain rfl : y = 144 := by omega
                  exact ax_mw144
                · skip
                  obtain rfl : y = 145 := by omega
                  exact ax_mw145
    · skip
      rcases Nat.lt_or_ge y 170 with hy170 | hy170
      · skip
        rcases Nat.lt_or_ge y 158 with hy158 | hy158
        · skip
          rcases Nat.lt_or_ge y 152 with hy152 | hy152
          · skip
            rcases Nat.lt_or_ge y 149 with hy149 | hy149
            · skip
              rcases Nat.lt_or_ge y 147 with hy147 | hy147
              · skip
                obtain rfl : y = 146 := by omega
                exact ax_mw146
              · skip
                rcases Nat.lt_or_ge y 148 with hy148 | hy148
                · skip
                  obtain rfl : y = 147 := by omega
                  exact ax_mw147
                · skip
                  obtain rfl : y = 148 := by omega
                  exact ax_mw148
            · skip
              rcases Nat.lt_or_ge y 150 with hy150 | hy150
              · skip
                obtain rfl : y = 149 := by omega
                exact ax_mw149
              · skip
                rcases Nat.lt_or_ge y 151 with hy151 | hy151
                · skip
                  obtain rfl : y = 150 := by omega
                  exact ax_mw150
                · skip
                  obtain rfl : y = 151 := by omega
                  exact ax_mw151
          · skip
            rcases Nat.lt_or_ge y 155 with hy155 | hy155
            · skip
              rcases Nat.lt_or_ge y 153 with hy153 | hy153
              · skip
                obtain rfl : y = 152 := by omega
                exact ax_mw152
              · skip
                rcases Nat.lt_or_ge y 154 with hy154 | hy154
                · skip
                  obtain rfl : y = 153 := by omega
                  exact ax_mw153
                · skip
                  obtain rfl : y = 154 := by omega
                  exact ax_mw154
            · skip
              rcases Nat.lt_or_ge y 156 with hy156 | hy156
              · skip
                obtain rfl : y = 155 := by omega
                exact ax_mw155
              · skip
                rcases Nat.lt_or_ge y 157 with hy157 | hy157
                · skip
                  obtain rfl : y = 156 := by omega
                  exact ax_mw156
                · skip
                  obtain rfl : y = 157 := by omega
                  exact ax_mw157
        · skip
          rcases Nat.lt_or_ge y 164 with hy164 | hy164
          · skip
            rcases Nat.lt_or_ge y 161 with hy161 | hy161
            · skip
              rcases Nat.lt_or_ge y 159 with hy159 | hy159
              · skip
                obtain rfl : y = 158 := by omega
                exact ax_mw158
              · skip
                rcases Nat.lt_or_ge y 160 with hy160 | hy160
                · skip
                  obtain rfl : y = 159 := by omega
                  exact ax_mw159
                · skip
                  obtain rfl : y = 160 := by omega
                  exact ax_mw160
            · skip
              rcases Nat.lt_or_ge y 162 with hy162 | hy162
              · skip
                obtain rfl : y = 161 := by omega
                exact ax_mw161
              · skip
                rcases Nat.lt_or_ge y 163 with hy163 | hy163
                · skip
                  obtain rfl : y = 162 := by omega
                  exact ax_mw162
                · skip
                  obtain rfl : y = 163 := by omega
                  exact ax_mw163
          · skip
            rcases Nat.lt_or_ge y 167 with hy167 | hy167
            · skip
              rcases Nat.lt_or_ge y 165 with hy165 | hy165
              · skip
                obtain rfl : y = 164 := by omega
                exact ax_mw164
              · skip
                rcases Nat.lt_or_ge y 166 with hy166 | hy166
                · skip
                  obtain rfl : y = 165 := by omega
                  exact ax_mw165
                · skip
                  obtain rfl : y = 166 := by omega
                  exact ax_mw166
            · skip
              rcases Nat.lt_or_ge y 168 with hy168 | hy168
              · skip
                obtain rfl : y = 167 := by omega
                exact ax_mw167
              · skip
                rcases Nat.lt_or_ge y 169 with hy169 | hy169
                · skip
                  obtain rfl : y = 168 := by omega
                  exact ax_mw168
                · skip
                  obtain rfl : y = 169 := by omega
                  exact ax_mw169
      · skip
        rcases Nat.lt_or_ge y 182 with hy182 | hy182
        · skip
          rcases Nat.lt_or_ge y 176 with hy176 | hy176
          · skip
            rcases Nat.lt_or_ge y 173 with hy173 | hy173
            · skip
              rcases Nat.lt_or_ge y 171 with hy171 | hy171
              · skip
                obtain rfl : y = 170 := by omega
                exact ax_mw170
              · skip
                rcases Nat.lt_or_ge y 172 with hy172 | hy172
                · skip
                  obtain rfl : y = 171 := by omega
                  exact ax_mw171
                · skip
                  obtain rfl : y = 172 := by omega
                  exact ax_mw172
            · skip
              rcases Nat.lt_or_ge y 174 with hy174 | hy174
              · skip
                obtain rfl : y = 173 := by omega
                exact ax_mw173
              · skip
                rcases Nat.lt_or_ge y 175 with hy175 | hy175
                · skip
                  obtain rfl : y = 174 := by omega
                  exact ax_mw174
                · skip
                  obtain rfl : y = 175 := by omega
                  exact ax_mw175
          · skip
            rcases Nat.lt_or_ge y 179 with hy179 | hy179
            · skip
              rcases Nat.lt_or_ge y 177 with hy177 | hy177
              · skip
                obtain rfl : y = 176 := by omega
                exact ax_mw176
              · skip
                rcases Nat.lt_or_ge y 178 with hy178 | hy178
                · skip
                  obtain rfl : y = 177 := by omega
                  exact ax_mw177
                · skip
                  obtain rfl : y = 178 := by omega
                  exact ax_mw178
            · skip
              rcases Nat.lt_or_ge y 180 with hy180 | hy180
              · skip
                obtain rfl : y = 179 := by omega
                exact ax_mw179
              · skip
                rcases Nat.lt_or_ge y 181 with hy181 | hy181
                · skip
                  obtain rfl : y = 180 := by omega
                  exact ax_mw180
                · skip
                  obtain rfl : y = 181 := by omega
                  exact ax_mw181
        · skip
          rcases Nat.lt_or_ge y 188 with hy188 | hy188
          · skip
            rcases Nat.lt_or_ge y 185 with hy185 | hy185
            · skip
              rcases Nat.lt_or_ge y 183 with hy183 | hy183
              · skip
                obtain rfl : y = 182 := by omega
                exact ax_mw182
              · skip
                rcases Nat.lt_or_ge y 184 with hy184 | hy184
                · skip
                  obtain rfl : y = 183 := by omega
                  exact ax_mw183
                · skip
                  obtain rfl : y = 184 := by omega
                  exact ax_mw184
            · skip
              rcases Nat.lt_or_ge y 186 with hy186 | hy186
              · skip
                obtain rfl : y = 185 := by omega
                exact ax_mw185
              · skip
                rcases Nat.lt_or_ge y 187 with hy187 | hy187
                · skip
                  obtain rfl : y = 186 := by omega
                  exact ax_mw186
                · skip
                  obtain rfl : y = 187 := by omega
                  exact ax_mw187
          · skip
            rcases Nat.lt_or_ge y 191 with hy191 | hy191
            · skip
              rcases Nat.lt_or_ge y 189 with hy189 | hy189
              · skip
                obtain rfl : y = 188 := by omega
                exact ax_mw188
              · skip
                rcases Nat.lt_or_ge y 190 with hy190 | hy190
                · skip
                  obtain rfl : y = 189 := by omega
                  exact ax_mw189
                · skip
                  obtain rfl : y = 190 := by omega
                  exact ax_mw190
            · skip
              rcases Nat.lt_or_ge y 193 with hy193 | hy193
              · skip
                rcases Nat.lt_or_ge y 192 with hy192 | hy192
                · skip
                  obtain rfl : y = 191 := by omega
                  exact ax_mw191
                · skip
                  obtain rfl : y = 192 := by omega
                  exact ax_mw192
              · skip
                rcases Nat.lt_or_ge y 194 with hy194 | hy194
                · skip
                  obtain rfl : y = 193 := by omega
                  exact ax_mw193
                · skip
                  obtain rfl : y = 194 := by omega
                  exact ax_mw194
def ax_myP (y : Nat) : Prop := (ax_y y).cls = ax_on (ax_own y) ∧ Jvm.plainName (ax_y y).cls = true ∧ ((ax_y y).cls ≠ "java/lang/invoke/MethodHandle" ∧ (ax_y y).cls ≠ "java/lang/invoke/VarHandle") ∧ (parseMethodDescriptor (ax_y y).desc).map (fun d => d.parameters.length) = some (ax_na y) ∧ ax_L y ≤ 19
theorem ax_my0 : ax_myP 0 := ⟨rfl, by decide +kernel, by decide +kernel, by decide +kernel, by decide⟩
theorem ax_my1 : ax_myP 1 := ⟨rfl, by decide +kernel, by decide +kernel, by decide +kernel, by decide⟩
theorem ax_my2 : ax_myP 2 := ⟨rfl, by decide +kernel, by decide +kernel, by decide +kernel, by decide⟩
theorem ax_my3 : ax_myP 3 := ⟨rfl, by decide +kernel, by decide +kernel, by decide +kernel, by decide⟩
theorem ax_my4 : ax_myP 4 := ⟨rfl, by decide +kernel, by decide +kernel, by decide +kernel, by decide⟩
theorem ax_my5 : ax_myP 5 := ⟨rfl, by decide +kernel, by decide +kernel, by decide +kernel, by decide⟩
theorem ax_my6 : ax_myP 6 := ⟨rfl, by decide +kernel, by decide +kernel, by decide +kernel, by decide⟩
theorem ax_my7 : ax_myP 7 := ⟨rfl, by decide +kernel, by decide +kernel, by decide +kernel, by decide⟩
theorem ax_my8 : ax_myP 8 := ⟨rfl, by decide +kernel, by decide +kernel, by decide +kernel, by decide⟩
theorem ax_my9 : ax_myP 9 := ⟨rfl, by decide +kernel, by decide +kernel, by decide +kernel, by decide⟩
theorem ax_my10 : ax_myP 10 := ⟨rfl, by decide +kernel, by decide +kernel, by decide +kernel, by decide⟩
theorem ax_my11 : ax_myP 11 := ⟨rfl, by decide +kernel, by decide +kernel, by decide +kernel, by decide⟩
theorem ax_my12 : ax_myP 12 := ⟨rfl, by decide +kernel, by decide +kernel, by decide +kernel, by decide⟩
theorem ax_my13 : ax_myP 13 := ⟨rfl, by decide +kernel, by decide +kernel, by decide +kernel, by decide⟩
theorem ax_my14 : ax_myP 14 := ⟨rfl, by decide +kernel, by decide +kernel, by decide +kernel, by decide⟩
theorem ax_my15 : ax_myP 15 := ⟨rfl, by decide +kernel, by decide +kernel, by decide +kernel, by decide⟩
theorem ax_my16 : ax_myP 16 := ⟨rfl, by decide +kernel, by decide +kernel, by decide +kernel, by decide⟩
theorem ax_my17 : ax_myP 17 := ⟨rfl, by decide +kernel, by decide +kernel, by decide +kernel, by decide⟩
theorem ax_my18 : ax_myP 18 := ⟨rfl, by decide +kernel, by decide +kernel, by decide +kernel, by decide⟩
theorem ax_my19 : ax_myP 19 := ⟨rfl, by decide +kernel, by decide +kernel, by decide +kernel, by decide⟩
theorem ax_my20 : ax_myP 20 := ⟨rfl, by decide +kernel, by decide +kernel, by decide +kernel, by decide⟩
theorem ax_my21 : ax_myP 21 := ⟨rfl, by decide +kernel, by decide +kernel, by decide +kernel, by decide⟩
theorem ax_my22 : ax_myP 22 := ⟨rfl, by decide +kernel, by decide +kernel, by decide +kernel, by decide⟩
theorem ax_my23 : ax_myP 23 := ⟨rfl, by decide +kernel, by decide +kernel, by decide +kernel, by decide⟩
theorem ax_my24 : ax_myP 24 := ⟨rfl, by decide +kernel, by decide +kernel, by decide +kernel, by decide⟩
theorem ax_my25 : ax_myP 25 := ⟨rfl, by decide +kernel, by decide +kernel, by decide +kernel, by decide⟩
theorem ax_my26 : ax_myP 26 := ⟨rfl, by decide +kernel, by decide +kernel, by decide +kernel, by decide⟩
theorem ax_my27 : ax_myP 27 := ⟨rfl, by decide +kernel, by decide +kernel, by decide +kernel, by decide⟩
theorem ax_my28 : ax_myP 28 := ⟨rfl, by decide +kernel, by decide +kernel, by decide +kernel, by decide⟩
theorem ax_my29 : ax_myP 29 := ⟨rfl, by decide +kernel, by decide +kernel, by decide +kernel, by decide⟩
theorem ax_my30 : ax_myP 30 := ⟨rfl, by decide +kernel, by decide +kernel, by decide +kernel, by decide⟩
theorem ax_my31 : ax_myP 31 := ⟨rfl, by decide +kernel, by decide +kernel, by decide +kernel, by decide⟩
theorem ax_my32 : ax_myP 32 := ⟨rfl, by decide +kernel, by decide +kernel, by decide +kernel, by decide⟩
theorem ax_my33 : ax_myP 33 := ⟨rfl, by decide +kernel, by decide +kernel, by decide +kernel, by decide⟩
theorem ax_my34 : ax_myP 34 := ⟨rfl, by decide +kernel, by decide +kernel, by decide +kernel, by decide⟩
theorem ax_my35 : ax_myP 35 := ⟨rfl, by decide +kernel, by decide +kernel, by decide +kernel, by decide⟩
theorem ax_my36 : ax_myP 36 := ⟨rfl, by decide +kernel, by decide +kernel, by decide +kernel, by decide⟩
theorem ax_my37 : ax_myP 37 := ⟨rfl, by decide +kernel, by decide +kernel, by decide +kernel, by decide⟩
theorem ax_my38 : ax_myP 38 := ⟨rfl, by decide +kernel, by decide +kernel, by decide +kernel, by decide⟩
theorem ax_my39 : ax_myP 39 := ⟨rfl, by decide +kernel, by decide +kernel, by decide +kernel, by decide⟩
theorem ax_my40 : ax_myP 40 := ⟨rfl, by decide +kernel, by decide +kernel, by decide +kernel, by decide⟩
theorem ax_my41 : ax_myP 41 := ⟨rfl, by decide +kernel, by decide +kernel, by decide +kernel, by decide⟩
theorem ax_my42 : ax_myP 42 := ⟨rfl, by decide +kernel, by decide +kernel, by decide +kernel, by decide⟩
theorem ax_my43 : ax_myP 43 := ⟨rfl, by decide +kernel, by decide +kernel, by decide +kernel, by decide⟩
theorem ax_my44 : ax_myP 44 := ⟨rfl, by decide +kernel, by decide +kernel, by decide +kernel, by decide⟩
theorem ax_my45 : ax_myP 45 := ⟨rfl, by decide +kernel, by decide +kernel, by decide +kernel, by decide⟩
theorem ax_my46 : ax_myP 46 := ⟨rfl, by decide +kernel, by decide +kernel, by decide +kernel, by decide⟩
theorem ax_my47 : ax_myP 47 := ⟨rfl, by decide +kernel, by decide +kernel, by decide +kernel, by decide⟩
theorem ax_my48 : ax_myP 48 := ⟨rfl, by decide +kernel, by decide +kernel, by decide +kernel, by decide⟩
theorem ax_my49 : ax_myP 49 := ⟨rfl, by decide +kernel, by decide +kernel, by decide +kernel, by decide⟩
theorem ax_my50 : ax_myP 50 := ⟨rfl, by decide +kernel, by decide +kernel, by decide +kernel, by decide⟩
theorem ax_my51 : ax_myP 51 := ⟨rfl, by decide +kernel, by decide +kernel, by decide +kernel, by decide⟩
theorem ax_my52 : ax_myP 52 := ⟨rfl, by decide +kernel, by decide +kernel, by decide +kernel, by decide⟩
theorem ax_my53 : ax_myP 53 := ⟨rfl, by decide +kernel, by decide +kernel, by decide +kernel, by decide⟩
theorem ax_my54 : ax_myP 54 := ⟨rfl, by decide +kernel, by decide +kernel, by decide +kernel, by decide⟩
theorem ax_my55 : ax_myP 55 := ⟨rfl, by decide +kernel, by decide +kernel, by decide +kernel, by decide⟩
theorem ax_my56 : ax_myP 56 := ⟨rfl, by decide +kernel, by decide +kernel, by decide +kernel, by decide⟩
theorem ax_my57 : ax_myP 57 := ⟨rfl, by decide +kernel, by decide +kernel, by decide +kernel, by decide⟩
theorem ax_my58 : ax_myP 58 := ⟨rfl, by decide +kernel, by decide +kernel, by decide +kernel, by decide⟩
theorem ax_my59 : ax_myP 59 := ⟨rfl, by decide +kernel, by decide +kernel, by decide +kernel, by decide⟩
theorem ax_my60 : ax_myP 60 := ⟨rfl, by decide +kernel, by decide +kernel, by decide +kernel, by decide⟩
theorem ax_my61 : ax_myP 61 := ⟨rfl, by decide +kernel, by decide +kernel, by decide +kernel, by decide⟩
theorem ax_my62 : ax_myP 62 := ⟨rfl, by decide +kernel, by decide +kernel, by decide +kernel, by decide⟩
theorem ax_my63 : ax_myP 63 := ⟨rfl, by decide +kernel, by decide +kernel, by decide +kernel, by decide⟩
theorem ax_my64 : ax_myP 64 := ⟨rfl, by decide +kernel, by decide +kernel, by decide +kernel, by decide⟩
theorem ax_my65 : ax_myP 65 := ⟨rfl, by decide +kernel, by decide +kernel, by decide +kernel, by decide⟩
theorem ax_my66 : ax_myP 66 := ⟨rfl, by decide +kernel, by decide +kernel, by decide +kernel, by decide⟩
theorem ax_my67 : ax_myP 67 := ⟨rfl, by decide +kernel, by decide +kernel, by decide +kernel, by decide⟩
theorem ax_my68 : ax_myP 68 := ⟨rfl, by decide +kernel, by decide +kernel, by decide +kernel, by decide⟩
theorem ax_my69 : ax_myP 69 := ⟨rfl, by decide +kernel, by decide +kernel, by decide +kernel, by decide⟩
theorem ax_my70 : ax_myP 70 := ⟨rfl, by decide +kernel, by decide +kernel, by decide +kernel, by decide⟩
theorem ax_my71 : ax_myP 71 := ⟨rfl, by decide +kernel, by decide +kernel, by decide +kernel, by decide⟩
theorem ax_my72 : ax_myP 72 := ⟨rfl, by decide +kernel, by decide +kernel, by decide +kernel, by decide⟩
theorem ax_my73 : ax_myP 73 := ⟨rfl, by decide +kernel, by decide +kernel, by decide +kernel, by decide⟩
theorem ax_my74 : ax_myP 74 := ⟨rfl, by decide +kernel, by decide +kernel, by decide +kernel, by decide⟩
theorem ax_my75 : ax_myP 75 := ⟨rfl, by decide +kernel, by decide +kernel, by decide +kernel, by decide⟩
theorem ax_my76 : ax_myP 76 := ⟨rfl, by decide +kernel, by decide +kernel, by decide +kernel, by decide⟩
theorem ax_my77 : ax_myP 77 := ⟨rfl, by decide +kernel, by decide +kernel, by decide +kernel, by decide⟩
theorem ax_my78 : ax_myP 78 := ⟨rfl, by decide +kernel, by decide +kernel, by decide +kernel, by decide⟩
theorem ax_my79 : ax_myP 79 := ⟨rfl, by decide +kernel, by decide +kernel, by decide +kernel, by decide⟩
theorem ax_my80 : ax_myP 80 := ⟨rfl, by decide +kernel, by decide +kernel, by decide +kernel, by decide⟩
theorem ax_my81 : ax_myP 81 := ⟨rfl, by decide +kernel, by decide +kernel, by decide +kernel, by decide⟩
theorem ax_my82 : ax_myP 82 := ⟨rfl, by decide +kernel, by decide +kernel, by decide +kernel, by decide⟩
theorem ax_my83 : ax_myP 83 := ⟨rfl, by decide +kernel, by decide +kernel, by decide +kernel, by decide⟩
theorem ax_my84 : ax_myP 84 := ⟨rfl, by decide +kernel, by decide +kernel, by decide +kernel, by decide⟩
theorem ax_my85 : ax_myP 85 := ⟨rfl, by decide +kernel, by decide +kernel, by decide +kernel, by decide⟩
theorem ax_my86 : ax_myP 86 := ⟨rfl, by decide +kernel, by decide +kernel, by decide +kernel, by decide⟩
theorem ax_my87 : ax_myP 87 := ⟨rfl, by decide +kernel, by decide +kernel, by decide +kernel, by decide⟩
theorem ax_my88 : ax_myP 88 := ⟨rfl, by decide +kernel, by decide +kernel, by decide +kernel, by decide⟩
theorem ax_my89 : ax_myP 89 := ⟨rfl, by decide +kernel, by decide +kernel, by decide +kernel, by decide⟩
theorem ax_my90 : ax_myP 90 := ⟨rfl, by decide +kernel, by decide +kernel, by decide +kernel, by decide⟩
theorem ax_my91 : ax_myP 91 := ⟨rfl, by decide +kernel, by decide +kernel, by decide +kernel, by decide⟩
theorem ax_my92 : ax_myP 92 := ⟨rfl, by decide +kernel, by decide +kernel, by decide +kernel, by decide⟩
theorem ax_my93 : ax_myP 93 := ⟨rfl, by decide +kernel, by decide +kernel, by decide +kernel, by decide⟩
theorem ax_my94 : ax_myP 94 := ⟨rfl, by decide +kernel, by decide +kernel, by decide +kernel, by decide⟩
theorem ax_my95 : ax_myP 95 := ⟨rfl, by decide +kernel, by decide +kernel, by decide +kernel, by decide⟩
theorem ax_my96 : ax_myP 96 := ⟨rfl, by decide +kernel, by decide +kernel, by decide +kernel, by decide⟩
theorem ax_my97 : ax_myP 97 := ⟨rfl, by decide +kernel, by decide +kernel, by decide +kernel, by decide⟩
theorem ax_my98 : ax_myP 98 := ⟨rfl, by decide +kernel, by decide +kernel, by decide +kernel, by decide⟩
theorem ax_my99 : ax_myP 99 := ⟨rfl, by decide +kernel, by decide +kernel, by decide +kernel, by decide⟩
theorem ax_my100 : ax_myP 100 := ⟨rfl, by decide +kernel, by decide +kernel, by decide +kernel, by decide⟩
theorem ax_my101 : ax_myP 101 := ⟨rfl, by decide +kernel, by decide +kernel, by decide +kernel, by decide⟩
theorem ax_my102 : ax_myP 102 := ⟨rfl, by decide +kernel, by decide +kernel, by decide +kernel, by decide⟩
theorem ax_my103 : ax_myP 103 := ⟨rfl, by decide +kernel, by decide +kernel, by decide +kernel, by decide⟩
theorem ax_my104 : ax_myP 104 := ⟨rfl, by decide +kernel, by decide +kernel, by decide +kernel, by decide⟩
theorem ax_my105 : ax_myP 105 := ⟨rfl, by decide +kernel, by decide +kernel, by decide +kernel, by decide⟩
theorem ax_my106 : ax_myP 106 := ⟨rfl, by decide +kernel, by decide +kernel, by decide +kernel, by decide⟩
theorem ax_my107 : ax_myP 107 := ⟨rfl, by decide +kernel, by decide +kernel, by decide +kernel, by decide⟩
theorem ax_my108 : ax_myP 108 := ⟨rfl, by decide +kernel, by decide +kernel, by decide +kernel, by decide⟩
theorem ax_my109 : ax_myP 109 := ⟨rfl, by decide +kernel, by decide +kernel, by decide +kernel, by decide⟩
theorem ax_my110 : ax_myP 110 := ⟨rfl, by decide +kernel, by decide +kernel, by decide +kernel, by decide⟩
theorem ax_my111 : ax_myP 111 := ⟨rfl, by decide +kernel, by decide +kernel, by decide +kernel, by decide⟩
theorem ax_my112 : ax_myP 112 := ⟨rfl, by decide +kernel, by decide +kernel, by decide +kernel, by decide⟩
theorem ax_my113 : ax_myP 113 := ⟨rfl, by decide +kernel, by decide +kernel, by decide +kernel, by decide⟩
theorem ax_my114 : ax_myP 114 := ⟨rfl, by decide +kernel, by decide +kernel, by decide +kernel, by decide⟩
theorem ax_my115 : ax_myP 115 := ⟨rfl, by decide +kernel, by decide +kernel, by decide +kernel, by decide⟩
theorem ax_my116 : ax_myP 116 := ⟨rfl, by decide +kernel, by decide +kernel, by decide +kernel, by decide⟩
theorem ax_my117 : ax_myP 117 := ⟨rfl, by decide +kernel, by decide +kernel, by decide +kernel, by decide⟩
theorem ax_my118 : ax_myP 118 := ⟨rfl, by decide +kernel, by decide +kernel, by decide +kernel, by decide⟩
theorem ax_my119 : ax_myP 119 := ⟨rfl, by decide +kernel, by decide +kernel, by decide +kernel, by decide⟩
theorem ax_my120 : ax_myP 120 := ⟨rfl, by decide +kernel, by decide +kernel, by decide +kernel, by decide⟩
theorem ax_my121 : ax_myP 121 := ⟨rfl, by decide +kernel, by decide +kernel, by decide +kernel, by decide⟩
theorem ax_my122 : ax_myP 122 := ⟨rfl, by decide +kernel, by decide +kernel, by decide +kernel, by decide⟩
theorem ax_my123 : ax_myP 123 := ⟨rfl, by decide +kernel, by decide +kernel, by decide +kernel, by decide⟩
theorem ax_my124 : ax_myP 124 := ⟨rfl, by decide +kernel, by decide +kernel, by decide +kernel, by decide⟩
theorem ax_my125 : ax_myP 125 := ⟨rfl, by decide +kernel, by decide +kernel, by decide +kernel, by decide⟩
theorem ax_my126 : ax_myP 126 := ⟨rfl, by decide +kernel, by decide +kernel, by decide +kernel, by decide⟩
theorem ax_my127 : ax_myP 127 := ⟨rfl, by decide +kernel, by decide +kernel, by decide +kernel, by decide⟩
theorem ax_my128 : ax_myP 128 := ⟨rfl, by decide +kernel, by decide +kernel, by decide +kernel, by decide⟩
theorem ax_my129 : ax_myP 129 := ⟨rfl, by decide +kernel, by decide +kernel, by decide +kernel, by decide⟩
theorem ax_my130 : ax_myP 130 := ⟨rfl, by decide +kernel, by decide +kernel, by decide +kernel, by decide⟩
theorem ax_my131 : ax_myP 131 := ⟨rfl, by decide +kernel, by decide +kernel, by decide +kernel, by decide⟩
theorem ax_my132 : ax_myP 132 := ⟨rfl, by decide +kernel, by decide +kernel, by decide +kernel, by decide⟩
theorem ax_my133 : ax_myP 133 := ⟨rfl, by decide +kernel, by decide +kernel, by decide +kernel, by decide⟩
theorem ax_my134 : ax_myP 134 := ⟨rfl, by decide +kernel, by decide +kernel, by decide +kernel, by decide⟩
theorem ax_my135 : ax_myP 135 := ⟨rfl, by decide +kernel, by decide +kernel, by decide +kernel, by decide⟩
theorem ax_my136 : ax_myP 136 := ⟨rfl, by decide +kernel, by decide +kernel, by decide +kernel, by decide⟩
theorem ax_my137 : ax_myP 137 := ⟨rfl, by decide +kernel, by decide +kernel, by decide +kernel, by decide⟩
theorem ax_my138 : ax_myP 138 := ⟨rfl, by decide +kernel, by decide +kernel, by decide +kernel, by decide⟩
theorem ax_my139 : ax_myP 139 := ⟨rfl, by decide +kernel, by decide +kernel, by decide +kernel, by decide⟩
theorem ax_my140 : ax_myP 140 := ⟨rfl, by decide +kernel, by decide +kernel, by decide +kernel, by decide⟩
theorem ax_my141 : ax_myP 141 := ⟨rfl, by decide +kernel, by decide +kernel, by decide +kernel, by decide⟩
theorem ax_my142 : ax_myP 142 := ⟨rfl, by decide +kernel, by decide +kernel, by decide +kernel, by decide⟩
theorem ax_my143 : ax_myP 143 := ⟨rfl, by decide +kernel, by decide +kernel, by decide +kernel, by decide⟩
theorem ax_my144 : ax_myP 144 := ⟨rfl, by decide +kernel, by decide +kernel, by decide +kernel, by decide⟩
theorem ax_my145 : ax_myP 145 := ⟨rfl, by decide +kernel, by decide +kernel, by decide +kernel, by decide⟩
theorem ax_my146 : ax_myP 146 := ⟨rfl, by decide +kernel, by decide +kernel, by decide +kernel, by decide⟩
theorem ax_my147 : ax_myP 147 := ⟨rfl, by decide +kernel, by decide +kernel, by decide +kernel, by decide⟩
theorem ax_my148 : ax_myP 148 := ⟨rfl, by decide +kernel, by decide +kernel, by decide +kernel, by decide⟩
theorem ax_my149 : ax_myP 149 := ⟨rfl, by decide +kernel, by decide +kernel, by decide +kernel, by decide⟩
theorem ax_my150 : ax_myP 150 := ⟨rfl, by decide +kernel, by decide +kernel, by decide +kernel, by decide⟩
theorem ax_my151 : ax_myP 151 := ⟨rfl, by decide +kernel, by decide +kernel, by decide +kernel, by decide⟩
theorem ax_my152 : ax_myP 152 := ⟨rfl, by decide +kernel, by decide +kernel, by decide +kernel, by decide⟩
theorem ax_my153 : ax_myP 153 := ⟨rfl, by decide +kernel, by decide +kernel, by decide +kernel, by decide⟩
theorem ax_my154 : ax_myP 154 := ⟨rfl, by decide +kernel, by decide +kernel, by decide +kernel, by decide⟩
theorem ax_my155 : ax_myP 155 := ⟨rfl, by decide +kernel, by decide +kernel, by decide +kernel, by decide⟩
theorem ax_my156 : ax_myP 156 := ⟨rfl, by decide +kernel, by decide +kernel, by decide +kernel, by decide⟩
theorem ax_my157 : ax_myP 157 := ⟨rfl, by decide +kernel, by decide +kernel, by decide +kernel, by decide⟩
theorem ax_my158 : ax_myP 158 := ⟨rfl, by decide +kernel, by decide +kernel, by decide +kernel, by decide⟩
theorem ax_my159 : ax_myP 159 := ⟨rfl, by decide +kernel, by decide +kernel, by decide +kernel, by decide⟩
theorem ax_my160 : ax_myP 160 := ⟨rfl, by decide +kernel, by decide +kernel, by decide +kernel, by decide⟩
theorem ax_my161 : ax_myP 161 := ⟨rfl, by decide +kernel, by decide +kernel, by decide +kernel, by decide⟩
theorem ax_my162 : ax_myP 162 := ⟨rfl, by decide +kernel, by decide +kernel, by decide +kernel, by decide⟩
theorem ax_my163 : ax_myP 163 := ⟨rfl, by decide +kernel, by decide +kernel, by decide +kernel, by decide⟩
theorem ax_my164 : ax_myP 164 := ⟨rfl, by decide +kernel, by decide +kernel, by decide +kernel, by decide⟩
theorem ax_my165 : ax_myP 165 := ⟨rfl, by decide +kernel, by decide +kernel, by decide +kernel, by decide⟩
theorem ax_my166 : ax_myP 166 := ⟨rfl, by decide +kernel, by decide +kernel, by decide +kernel, by decide⟩
theorem ax_my167 : ax_myP 167 := ⟨rfl, by decide +kernel, by decide +kernel, by decide +kernel, by decide⟩
theorem ax_my168 : ax_myP 168 := ⟨rfl, by decide +kernel, by decide +kernel, by decide +kernel, by decide⟩
theorem ax_my169 : ax_myP 169 := ⟨rfl, by decide +kernel, by decide +kernel, by decide +kernel, by decide⟩
theorem ax_my170 : ax_myP 170 := ⟨rfl, by decide +kernel, by decide +kernel, by decide +kernel, by decide⟩
theorem ax_my171 : ax_myP 171 := ⟨rfl, by decide +kernel, by decide +kernel, by decide +kernel, by decide⟩
theorem ax_my172 : ax_myP 172 := ⟨rfl, by decide +kernel, by decide +kernel, by decide +kernel, by decide⟩
theorem ax_my173 : ax_myP 173 := ⟨rfl, by decide +kernel, by decide +kernel, by decide +kernel, by decide⟩
theorem ax_my174 : ax_myP 174 := ⟨rfl, by decide +kernel, by decide +kernel, by decide +kernel, by decide⟩
theorem ax_my175 : ax_myP 175 := ⟨rfl, by decide +kernel, by decide +kernel, by decide +kernel, by decide⟩
theorem ax_my176 : ax_myP 176 := ⟨rfl, by decide +kernel, by decide +kernel, by decide +kernel, by decide⟩
theorem ax_my177 : ax_myP 177 := ⟨rfl, by decide +kernel, by decide +kernel, by decide +kernel, by decide⟩
theorem ax_my178 : ax_myP 178 := ⟨rfl, by decide +kernel, by decide +kernel, by decide +kernel, by decide⟩
theorem ax_my179 : ax_myP 179 := ⟨rfl, by decide +kernel, by decide +kernel, by decide +kernel, by decide⟩
theorem ax_my180 : ax_myP 180 := ⟨rfl, by decide +kernel, by decide +kernel, by decide +kernel, by decide⟩
theorem ax_my181 : ax_myP 181 := ⟨rfl, by decide +kernel, by decide +kernel, by decide +kernel, by decide⟩
theorem ax_my182 : ax_myP 182 := ⟨rfl, by decide +kernel, by decide +kernel, by decide +kernel, by decide⟩
theorem ax_my183 : ax_myP 183 := ⟨rfl, by decide +kernel, by decide +kernel, by decide +kernel, by decide⟩
theorem ax_my184 : ax_myP 184 := ⟨rfl, by decide +kernel, by decide +kernel, by decide +kernel, by decide⟩
theorem ax_my185 : ax_myP 185 := ⟨rfl, by decide +kernel, by decide +kernel, by decide +kernel, by decide⟩
theorem ax_my186 : ax_myP 186 := ⟨rfl, by decide +kernel, by decide +kernel, by decide +kernel, by decide⟩
theorem ax_my187 : ax_myP 187 := ⟨rfl, by decide +kernel, by decide +kernel, by decide +kernel, by decide⟩
theorem ax_my188 : ax_myP 188 := ⟨rfl, by decide +kernel, by decide +kernel, by decide +kernel, by decide⟩
theorem ax_my189 : ax_myP 189 := ⟨rfl, by decide +kernel, by decide +kernel, by decide +kernel, by decide⟩
theorem ax_my190 : ax_myP 190 := ⟨rfl, by decide +kernel, by decide +kernel, by decide +kernel, by decide⟩
theorem ax_my191 : ax_myP 191 := ⟨rfl, by decide +kernel, by decide +kernel, by decide +kernel, by decide⟩
theorem ax_my192 : ax_myP 192 := ⟨rfl, by decide +kernel, by decide +kernel, by decide +kernel, by decide⟩
theorem ax_my193 : ax_myP 193 := ⟨rfl, by decide +kernel, by decide +kernel, by decide +kernel, by decide⟩
theorem ax_my194 : ax_myP 194 := ⟨rfl, by decide +kernel, by decide +kernel, by decide +kernel, by decide⟩
theorem ax_my : ∀ y, y < 195 → ax_myP y := by
  intro y hy
  rcases Nat.lt_or_ge y 97 with hy97 | hy97
  · skip
    rcases Nat.lt_or_ge y 48 with hy48 | hy48
    · skip
      rcases Nat.lt_or_ge y 24 with hy24 | hy24
      · skip
        rcases Nat.lt_or_ge y 12 with hy12 | hy12
        · skip
          rcases Nat.lt_or_ge y 6 with hy6 | hy6
          · skip
            rcases Nat.lt_or_ge y 3 with hy3 | hy3
            · skip
              rcases Nat.lt_or_ge y 1 with hy1 | hy1
              · skip
                obtain rfl : y = 0 := by omega
                exact ax_my0
              · skip
                rcases Nat.lt_or_ge y 2 with hy2 | hy2
                · skip
                  obtain rfl : y = 1 := by omega
                  exact ax_my1
                · skip
                  obtain rfl : y = 2 := by omega
                  exact ax_my2
            · skip
              rcases Nat.lt_or_ge y 4 with hy4 | hy4
              · skip
                obtain rfl : y = 3 := by omega
                exact ax_my3
              · skip
                rcases Nat.lt_or_ge y 5 with hy5 | hy5
                · skip
                  obtain rfl : y = 4 := by omega
                  exact ax_my4
                · skip
                  obtain rfl : y = 5 := by omega
                  exact ax_my5
          · skip
            rcases Nat.lt_or_ge y 9 with hy9 | hy9
            · skip
              rcases Nat.lt_or_ge y 7 with hy7 | hy7
              · skip
                obtain rfl : y = 6 := by omega
                exact ax_my6
              · skip
                rcases Nat.lt_or_ge y 8 with hy8 | hy8
                · skip
                  obtain rfl : y = 7 := by omega
                  exact ax_my7
                · skip
                  obtain rfl : y = 8 := by omega
                  exact ax_my8
            · skip
              rcases Nat.lt_or_ge y 10 with hy10 | hy10
              · skip
                obtain rfl : y = 9 := by omega
                exact ax_my9
              · skip
                rcases Nat.lt_or_ge y 11 with hy11 | hy11
                · skip
                  obtain rfl : y = 10 := by omega
                  exact ax_my10
                · skip
                  obtain rfl : y = 11 := by omega
                  exact ax_my11
        · skip
          rcases Nat.lt_or_ge y 18 with hy18 | hy18
          · skip
            rcases Nat.lt_or_ge y 15 with hy15 | hy15
            · skip
              rcases Nat.lt_or_ge y 13 with hy13 | hy13
              · skip
                obtain rfl : y = 12 := by omega
                exact ax_my12
              · skip
                rcases Nat.lt_or_ge y 14 with hy14 | hy14
                · skip
                  obtain rfl : y = 13 := by omega
                  exact ax_my13
                · skip
                  obtain rfl : y = 14 := by omega
                  exact ax_my14
            · skip
              rcases Nat.lt_or_ge y 16 with hy16 | hy16
              · skip
                obtain rfl : y = 15 := by omega
                exact ax_my15
              · skip
                rcases Nat.lt_or_ge y 17 with hy17 | hy17
                · skip
                  obtain rfl : y = 16 := by omega
                  exact ax_my16
                · skip
                  obtain rfl : y = 17 := by omega
                  exact ax_my17
          · skip
            rcases Nat.lt_or_ge y 21 with hy21 | hy21
            · skip
              rcases Nat.lt_or_ge y 19 with hy19 | hy19
              · skip
                obtain rfl : y = 18 := by omega
                exact ax_my18
              · skip
                rcases Nat.lt_or_ge y 20 with hy20 | hy20
                · skip
                  obtain rfl : y = 19 := by omega
                  exact ax_my19
                · skip
                  obtain rfl : y = 20 := by omega
                  exact ax_my20
            · skip
              rcases Nat.lt_or_ge y 22 with hy22 | hy22
              · skip
                obtain rfl : y = 21 := by omega
                exact ax_my21
              · skip
                rcases Nat.lt_or_ge y 23 with hy23 | hy23
                · skip
                  obtain rfl : y = 22 := by omega
                  exact ax_my22
                · skip
                  obtain rfl : y = 23 := by omega
                  exact ax_my23
      · skip
        rcases Nat.lt_or_ge y 36 with hy36 | hy36
        · skip
          rcases Nat.lt_or_ge y 30 with hy30 | hy30
          · skip
            rcases Nat.lt_or_ge y 27 with hy27 | hy27
            · skip
              rcases Nat.lt_or_ge y 25 with hy25 | hy25
              · skip
                obtain rfl : y = 24 := by omega
                exact ax_my24
              · skip
                rcases Nat.lt_or_ge y 26 with hy26 | hy26
                · skip
                  obtain rfl : y = 25 := by omega
                  exact ax_my25
                · skip
                  obtain rfl : y = 26 := by omega
                  exact ax_my26
            · skip
              rcases Nat.lt_or_ge y 28 with hy28 | hy28
              · skip
                obtain rfl : y = 27 := by omega
                exact ax_my27
              · skip
                rcases Nat.lt_or_ge y 29 with hy29 | hy29
                · skip
                  obtain rfl : y = 28 := by omega
                  exact ax_my28
                · skip
                  obtain rfl : y = 29 := by omega
                  exact ax_my29
          · skip
            rcases Nat.lt_or_ge y 33 with hy33 | hy33
            · skip
              rcases Nat.lt_or_ge y 31 with hy31 | hy31
              · skip
                obtain rfl : y = 30 := by omega
                exact ax_my30
              · skip
                rcases Nat.lt_or_ge y 32 with hy32 | hy32
                · skip
                  obtain rfl : y = 31 := by omega
                  exact ax_my31
                · skip
                  obtain rfl : y = 32 := by omega
                  exact ax_my32
            · skip
              rcases Nat.lt_or_ge y 34 with hy34 | hy34
              · skip
                obtain rfl : y = 33 := by omega
                exact ax_my33
              · skip
                rcases Nat.lt_or_ge y 35 with hy35 | hy35
                · skip
                  obtain rfl : y = 34 := by omega
                  exact ax_my34
                · skip
                  obtain rfl : y = 35 := by omega
                  exact ax_my35
        · skip
          rcases Nat.lt_or_ge y 42 with hy42 | hy42
          · skip
            rcases Nat.lt_or_ge y 39 with hy39 | hy39
            · skip
              rcases Nat.lt_or_ge y 37 with hy37 | hy37
              · skip
                obtain rfl : y = 36 := by omega
                exact ax_my36
              · skip
                rcases Nat.lt_or_ge y 38 with hy38 | hy38
                · skip
                  obtain rfl : y = 37 := by omega
                  exact ax_my37
                · skip
                  obtain rfl : y = 38 := by omega
                  exact ax_my38
            · skip
              rcases Nat.lt_or_ge y 40 with hy40 | hy40
              · skip
                obtain rfl : y = 39 := by omega
                exact ax_my39
              · skip
                rcases Nat.lt_or_ge y 41 with hy41 | hy41
                · skip
                  obtain rfl : y = 40 := by omega
                  exact ax_my40
                · skip
                  obtain rfl : y = 41 := by omega
                  exact ax_my41
          · skip
            rcases Nat.lt_or_ge y 45 with hy45 | hy45
            · skip
              rcases Nat.lt_or_ge y 43 with hy43 | hy43
              · skip
                obtain rfl : y = 42 := by omega
                exact ax_my42
              · skip
                rcases Nat.lt_or_ge y 44 with hy44 | hy44
                · skip
                  obtain rfl : y = 43 := by omega
                  exact ax_my43
                · skip
                  obtain rfl : y = 44 := by omega
                  exact ax_my44
            · skip
              rcases Nat.lt_or_ge y 46 with hy46 | hy46
              · skip
                obtain rfl : y = 45 := by omega
                exact ax_my45
              · skip
                rcases Nat.lt_or_ge y 47 with hy47 | hy47
                · skip
                  obtain rfl : y = 46 := by omega
                  exact ax_my46
                · skip
                  obtain rfl : y = 47 := by omega
                  exact ax_my47
    · skip
      rcases Nat.lt_or_ge y 72 with hy72 | hy72
      · skip
        rcases Nat.lt_or_ge y 60 with hy60 | hy60
        · skip
          rcases Nat.lt_or_ge y 54 with hy54 | hy54
          · skip
            rcases Nat.lt_or_ge y 51 with hy51 | hy51
            · skip
              rcases Nat.lt_or_ge y 49 with hy49 | hy49
              · skip
                obtain rfl : y = 48 := by omega
                exact ax_my48
              · skip
                rcases Nat.lt_or_ge y 50 with hy50 | hy50
                · skip
                  obtain rfl : y = 49 := by omega
                  exact ax_my49
                · skip
                  obtain rfl : y = 50 := by omega
                  exact ax_my50
            · skip
              rcases Nat.lt_or_ge y 52 with hy52 | hy52
              · skip
                obtain rfl : y = 51 := by omega
                exact ax_my51
              · skip
                rcases Nat.lt_or_ge y 53 with hy53 | hy53
                · skip
                  obtain rfl : y = 52 := by omega
                  exact ax_my52
                · skip
                  obtain rfl : y = 53 := by omega
                  exact ax_my53
          · skip
            rcases Nat.lt_or_ge y 57 with hy57 | hy57
            · skip
              rcases Nat.lt_or_ge y 55 with hy55 | hy55
              · skip
                obtain rfl : y = 54 := by omega
                exact ax_my54
              · skip
                rcases Nat.lt_or_ge y 56 with hy56 | hy56
                · skip
                  obtain rfl : y = 55 := by omega
                  exact ax_my55
                · skip
                  obtain rfl : y = 56 := by omega
                  exact ax_my56
            · skip
              rcases Nat.lt_or_ge y 58 with hy58 | hy58
              · skip
                obtain rfl : y = 57 := by omega
                exact ax_my57
              · skip
                rcases Nat.lt_or_ge y 59 with hy59 | hy59
                · skip
                  obtain rfl : y = 58 := by omega
                  exact ax_my58
                · skip
                  obtain rfl : y = 59 := by omega
                  exact ax_my59
        · skip
          rcases Nat.lt_or_ge y 66 with hy66 | hy66
          · skip
            rcases Nat.lt_or_ge y 63 with hy63 | hy63
            · skip
              rcases Nat.lt_or_ge y 61 with hy61 | hy61
              · skip
                obtain rfl : y = 60 := by omega
                exact ax_my60
              · skip
                rcases Nat.lt_or_ge y 62 with hy62 | hy62
                · skip
                  obtain rfl : y = 61 := by omega
                  exact ax_my61
                · skip
                  obtain rfl : y = 62 := by omega
                  exact ax_my62
            · skip
              rcases Nat.lt_or_ge y 64 with hy64 | hy64
              · skip
                obtain rfl : y = 63 := by omega
                exact ax_my63
              · skip
                rcases Nat.lt_or_ge y 65 with hy65 | hy65
                · skip
                  obtain rfl : y = 64 := by omega
                  exact ax_my64
                · skip
                  obtain rfl : y = 65 := by omega
                  exact ax_my65
          · skip
            rcases Nat.lt_or_ge y 69 with hy69 | hy69
            · skip
              rcases Nat.lt_or_ge y 67 with hy67 | hy67
              · skip
                obtain rfl : y = 66 := by omega
                exact ax_my66
              · skip
                rcases Nat.lt_or_ge y 68 with hy68 | hy68
                · skip
                  obtain rfl : y = 67 := by omega
                  exact ax_my67
                · skip
                  obtain rfl : y = 68 := by omega
                  exact ax_my68
            · skip
              rcases Nat.lt_or_ge y 70 with hy70 | hy70
              · skip
                obtain rfl : y = 69 := by omega
                exact ax_my69
              · skip
                rcases Nat.lt_or_ge y 71 with hy71 | hy71
                · skip
                  obtain rfl : y = 70 := by omega
                  exact ax_my70
                · skip
                  obtain rfl : y = 71 := by omega
                  exact ax_my71
      · skip
        rcases Nat.lt_or_ge y 84 with hy84 | hy84
        · skip
          rcases Nat.lt_or_ge y 78 with hy78 | hy78
          · skip
            rcases Nat.lt_or_ge y 75 with hy75 | hy75
            · skip
              rcases Nat.lt_or_ge y 73 with hy73 | hy73
              · skip
                obtain rfl : y = 72 := by omega
                exact ax_my72
              · skip
                rcases Nat.lt_or_ge y 74 with hy74 | hy74
                · skip
                  obtain rfl : y = 73 := by omega
                  exact ax_my73
                · skip
                  obtain rfl : y = 74 := by omega
                  exact ax_my74
            · skip
              rcases Nat.lt_or_ge y 76 with hy76 | hy76
              · skip
                obtain rfl : y = 75 := by omega
                exact ax_my75
              · skip
                rcases Nat.lt_or_ge y 77 with hy77 | hy77
                · skip
                  obtain rfl : y = 76 := by omega
                  exact ax_my76
                · skip
                  obtain rfl : y = 77 := by omega
                  exact ax_my77
          · skip
            rcases Nat.lt_or_ge y 81 with hy81 | hy81
            · skip
              rcases Nat.lt_or_ge y 79 with hy79 | hy79
              · skip
                obtain rfl : y = 78 := by omega
                exact ax_my78
              · skip
                rcases Nat.lt_or_ge y 80 with hy80 | hy80
                · skip
                  obtain rfl : y = 79 := by omega
                  exact ax_my79
                · skip
                  obtain rfl : y = 80 := by omega
                  exact ax_my80
            · skip
              rcases Nat.lt_or_ge y 82 with hy82 | hy82
              · skip
                obtain rfl : y = 81 := by omega
                exact ax_my81
              · skip
                rcases Nat.lt_or_ge y 83 with hy83 | hy83
                · skip
                  obtain rfl : y = 82 := by omega
                  exact ax_my82
                · skip
                  obtain rfl : y = 83 := by omega
                  exact ax_my83
        · skip
          rcases Nat.lt_or_ge y 90 with hy90 | hy90
          · skip
            rcases Nat.lt_or_ge y 87 with hy87 | hy87
            · skip
              rcases Nat.lt_or_ge y 85 with hy85 | hy85
              · skip
                obtain rfl : y = 84 := by omega
                exact ax_my84
              · skip
                rcases Nat.lt_or_ge y 86 with hy86 | hy86
                · skip
                  obtain rfl : y = 85 := by omega
                  exact ax_my85
                · skip
                  obtain rfl : y = 86 := by omega
                  exact ax_my86
            · skip
              rcases Nat.lt_or_ge y 88 with hy88 | hy88
              · skip
                obtain rfl : y = 87 := by omega
                exact ax_my87
              · skip
                rcases Nat.lt_or_ge y 89 with hy89 | hy89
                · skip
                  obtain rfl : y = 88 := by omega
                  exact ax_my88
                · skip
                  obtain rfl : y = 89 := by omega
                  exact ax_my89
          · skip
            rcases Nat.lt_or_ge y 93 with hy93 | hy93
            · skip
              rcases Nat.lt_or_ge y 91 with hy91 | hy91
              · skip
                obtain rfl : y = 90 := by omega
                exact ax_my90
              · skip
                rcases Nat.lt_or_ge y 92 with hy92 | hy92
                · skip
                  obtain rfl : y = 91 := by omega
                  exact ax_my91
                · skip
                  obtain rfl : y = 92 := by omega
                  exact ax_my92
            · skip
              rcases Nat.lt_or_ge y 95 with hy95 | hy95
              · skip
                rcases Nat.lt_or_ge y 94 with hy94 | hy94
                · skip
                  obtain rfl : y = 93 := by omega
                  exact ax_my93
                · skip
                  obtain rfl : y = 94 := by omega
                  exact ax_my94
              · skip
                rcases Nat.lt_or_ge y 96 with hy96 | hy96
                · skip
                  obtain rfl : y = 95 := by omega
                  exact ax_my95
                · skip
                  obtain rfl : y = 96 := by omega
                  exact ax_my96
  · skip
    rcases Nat.lt_or_ge y 146 with hy146 | hy146
    · skip
      rcases Nat.lt_or_ge y 121 with hy121 | hy121
      · skip
        rcases Nat.lt_or_ge y 109 with hy109 | hy109
        · skip
          rcases Nat.lt_or_ge y 103 with hy103 | hy103
          · skip
            rcases Nat.lt_or_ge y 100 with hy100 | hy100
            · skip
              rcases Nat.lt_or_ge y 98 with hy98 | hy98
              · skip
                obtain rfl : y = 97 := by omega
                exact ax_my97
              · skip
                rcases Nat.lt_or_ge y 99 with hy99 | hy99
                · skip
                  obtain rfl : y = 98 := by omega
                  exact ax_my98
                · skip
                  obtain rfl : y = 99 := by omega
                  exact ax_my99
            · skip
              rcases Nat.lt_or_ge y 101 with hy101 | hy101
              · skip
                obtain rfl : y = 100 := by omega
                exact ax_my100
              · skip
                rcases Nat.lt_or_ge y 102 with hy102 | hy102
                · skip
                  obtain rfl : y = 101 := by omega
                  exact ax_my101
                · skip
                  obtain rfl : y = 102 := by omega
                  exact ax_my102
          · skip
            rcases Nat.lt_or_ge y 106 with hy106 | hy106
            · skip
              rcases Nat.lt_or_ge y 104 with hy104 | hy104
              · skip
                obtain rfl : y = 103 := by omega
                exact ax_my103
              · skip
                rcases Nat.lt_or_ge y 105 with hy105 | hy105
                · skip
                  obtain rfl : y = 104 := by omega
                  exact ax_my104
                · skip
                  obtain rfl : y = 105 := by omega
                  exact ax_my105
            · skip
              rcases Nat.lt_or_ge y 107 with hy107 | hy107
              · skip
                obtain rfl : y = 106 := by omega
                exact ax_my106
              · skip
                rcases Nat.lt_or_ge y 108 with hy108 | hy108
                · skip
                  obtain rfl : y = 107 := by omega
                  exact ax_my107
                · skip
                  obtain rfl : y = 108 := by omega
                  exact ax_my108
        · skip
          rcases Nat.lt_or_ge y 115 with hy115 | hy115
          · skip
            rcases Nat.lt_or_ge y 112 with hy112 | hy112
            · skip
              rcases Nat.lt_or_ge y 110 with hy110 | hy110
              · skip
                obtain rfl : y = 109 := by omega
                exact ax_my109
              · skip
                rcases Nat.lt_or_ge y 111 with hy111 | hy111
                · skip
                  obtain rfl : y = 110 := by omega
                  exact ax_my110
                · skip
                  obtain rfl : y = 111 := by omega
                  exact ax_my111
            · skip
              rcases Nat.lt_or_ge y 113 with hy113 | hy113
              · skip
                obtain rfl : y = 112 := by omega
                exact ax_my112
              · skip
                rcases Nat.lt_or_ge y 114 with hy114 | hy114
                · skip
                  obtain rfl : y = 113 := by omega
                  exact ax_my113
                · skip
                  obtain rfl : y = 114 := by omega
                  exact ax_my114
          · skip
            rcases Nat.lt_or_ge y 118 with hy118 | hy118
            · skip
              rcases Nat.lt_or_ge y 116 with hy116 | hy116
              · skip
                obtain rfl : y = 115 := by omega
                exact ax_my115
              · skip
                rcases Nat.lt_or_ge y 117 with hy117 | hy117
                · skip
                  obtain rfl : y = 116 := by omega
                  exact ax_my116
                · skip
                  obtain rfl : y = 117 := by omega
                  exact ax_my117
            · skip
              rcases Nat.lt_or_ge y 119 with hy119 | hy119
              · skip
                obtain rfl : y = 118 := by omega
                exact ax_my118
              · skip
                rcases Nat.lt_or_ge y 120 with hy120 | hy120
                · skip
                  obtain rfl : y = 119 := by omega
                  exact ax_my119
                · skip
                  obtain rfl : y = 120 := by omega
                  exact ax_my120
      · skip
        rcases Nat.lt_or_ge y 133 with hy133 | hy133
        · skip
          rcases Nat.lt_or_ge y 127 with hy127 | hy127
          · skip
            rcases Nat.lt_or_ge y 124 with hy124 | hy124
            · skip
              rcases Nat.lt_or_ge y 122 with hy122 | hy122
              · skip
                obtain rfl : y = 121 := by omega
                exact ax_my121
              · skip
                rcases Nat.lt_or_ge y 123 with hy123 | hy123
                · skip
                  obtain rfl : y = 122 := by omega
                  exact ax_my122
                · skip
                  obtain rfl : y = 123 := by omega
                  exact ax_my123
            · skip
              rcases Nat.lt_or_ge y 125 with hy125 | hy125
              · skip
                obtain rfl : y = 124 := by omega
                exact ax_my124
              · skip
                rcases Nat.lt_or_ge y 126 with hy126 | hy126
                · skip
                  obtain rfl : y = 125 := by omega
                  exact ax_my125
                · skip
                  obtain rfl : y = 126 := by omega
                  exact ax_my126
          · skip
            rcases Nat.lt_or_ge y 130 with hy130 | hy130
            · skip
              rcases Nat.lt_or_ge y 128 with hy128 | hy128
              · skip
                obtain rfl : y = 127 := by omega
                exact ax_my127
              · skip
                rcases Nat.lt_or_ge y 129 with hy129 | hy129
                · skip
                  obtain rfl : y = 128 := by omega
                  exact ax_my128
                · skip
                  obtain rfl : y = 129 := by omega
                  exact ax_my129
            · skip
              rcases Nat.lt_or_ge y 131 with hy131 | hy131
              · skip
                obtain rfl : y = 130 := by omega
                exact ax_my130
              · skip
                rcases Nat.lt_or_ge y 132 with hy132 | hy132
                · skip
                  obtain rfl : y = 131 := by omega
                  exact ax_my131
                · skip
                  obtain rfl : y = 132 := by omega
                  exact ax_my132
        · skip
          rcases Nat.lt_or_ge y 139 with hy139 | hy139
          · skip
            rcases Nat.lt_or_ge y 136 with hy136 | hy136
            · skip
              rcases Nat.lt_or_ge y 134 with hy134 | hy134
              · skip
                obtain rfl : y = 133 := by omega
                exact ax_my133
              · skip
                rcases Nat.lt_or_ge y 135 with hy135 | hy135
                · skip
                  obtain rfl : y = 134 := by omega
                  exact ax_my134
                · skip
                  obtain rfl : y = 135 := by omega
                  exact ax_my135
            · skip
              rcases Nat.lt_or_ge y 137 with hy137 | hy137
              · skip
                obtain rfl : y = 136 := by omega
                exact ax_my136
              · skip
                rcases Nat.lt_or_ge y 138 with hy138 | hy138
                · skip
                  obtain rfl : y = 137 := by omega
                  exact ax_my137
                · skip
                  obtain rfl : y = 138 := by omega
                  exact ax_my138
          · skip
            rcases Nat.lt_or_ge y 142 with hy142 | hy142
            · skip
              rcases Nat.lt_or_ge y 140 with hy140 | hy140
              · skip
                obtain rfl : y = 139 := by omega
                exact ax_my139
              · skip
                rcases Nat.lt_or_ge y 141 with hy141 | hy141
                · skip
                  obtain rfl : y = 140 := by omega
                  exact ax_my140
                · skip
                  obtain rfl : y = 141 := by omega
                  exact ax_my141
            · skip
              rcases Nat.lt_or_ge y 144 with hy144 | hy144
              · skip
                rcases Nat.lt_or_ge y 143 with hy143 | hy143
                · skip
                  obtain rfl : y = 142 := by omega
                  exact ax_my142
                · skip
                  obtain rfl : y = 143 := by omega
                  exact ax_my143
              · skip
                rcases Nat.lt_or_ge y 145 with hy145 | hy145
                · skip
                  obtain rfl : y = 144 := by omega
                  exact ax_my144
                · skip
                  obtain rfl : y = 145 := by omega
                  exact ax_my145
    · skip
      rcases Nat.lt_or_ge y 170 with hy170 | hy170
      · skip
        rcases Nat.lt_or_ge y 158 with hy158 | hy158
        · skip
          rcases Nat.lt_or_ge y 152 with hy152 | hy152
          · skip
            rcases Nat.lt_or_ge y 149 with hy149 | hy149
            · skip
              rcases Nat.lt_or_ge y 147 with hy147 | hy147
              · skip
                obtain rfl : y = 146 := by omega
                exact ax_my146
              · skip
                rcases Nat.lt_or_ge y 148 with hy148 | hy148
                · skip
                  obtain rfl : y = 147 := by omega
                  exact ax_my147
                · skip
                  obtain rfl : y = 148 := by omega
                  exact ax_my148
            · skip
              rcases Nat.lt_or_ge y 150 with hy150 | hy150
              · skip
                obtain rfl : y = 149 := by omega
                exact ax_my149
              · skip
                rcases Nat.lt_or_ge y 151 with hy151 | hy151
                · skip
                  obtain rfl : y = 150 := by omega
                  exact ax_my150
                · skip
                  obtain rfl : y = 151 := by omega
                  exact ax_my151
          · skip
            rcases Nat.lt_or_ge y 155 with hy155 | hy155
            · skip
              rcases Nat.lt_or_ge y 153 with hy153 | hy153
              · skip
                obtain rfl : y = 152 := by omega
                exact ax_my152
              · skip
                rcases Nat.lt_or_ge y 154 with hy154 | hy154
                · skip
                  obtain rfl : y = 153 := by omega
                  exact ax_my153
                · skip
                  obtain rfl : y = 154 := by omega
                  exact ax_my154
            · skip
              rcases Nat.lt_or_ge y 156 with hy156 | hy156
              · skip
                obtain rfl : y = 155 := by omega
                exact ax_my155
              · skip
                rcases Nat.lt_or_ge y 157 with hy157 | hy157
                · skip
                  obtain rfl : y = 156 := by omega
                  exact ax_my156
                · skip
                  obtain rfl : y = 157 := by omega
                  exact ax_my157
        · skip
          rcases Nat.lt_or_ge y 164 with hy164 | hy164
          · skip
            rcases Nat.lt_or_ge y 161 with hy161 | hy161
            · skip
              rcases Nat.lt_or_ge y 159 with hy159 | hy159
              · skip
                obtain rfl : y = 158 := by omega
                exact ax_my158
              · skip
                rcases Nat.lt_or_ge y 160 with hy160 | hy160
                · skip
                  obtain rfl : y = 159 := by omega
                  exact ax_my159
                · skip
                  obtain rfl : y = 160 := by omega
                  exact ax_my160
            · skip
              rcases Nat.lt_or_ge y 162 with hy162 | hy162
              · skip
                obtain rfl : y = 161 := by omega
                exact ax_my161
              · skip
                rcases Nat.lt_or_ge y 163 with hy163 | hy163
                · skip
                  obtain rfl : y = 162 := by omega
                  exact ax_my162
                · skip
                  obtain rfl : y = 163 := by omega
                  exact ax_my163
          · skip
            rcases Nat.lt_or_ge y 167 with hy167 | hy167
            · skip
              rcases Nat.lt_or_ge y 165 with hy165 | hy165
              · skip
                obtain rfl : y = 164 := by omega
                exact ax_my164
              · skip
                rcases Nat.lt_or_ge y 166 with hy166 | hy166
                · skip
                  obtain rfl : y = 165 := by omega
                  exact ax_my165
                · skip
                  obtain rfl : y = 166 := by omega
                  exact ax_my166
            · skip
              rcases Nat.lt_or_ge y 168 with hy168 | hy168
              · skip
                obtain rfl : y = 167 := by omega
                exact ax_my167
              · skip
                rcases Nat.lt_or_ge y 169 with hy169 | hy169
                · skip
                  obtain rfl : y = 168 := by omega
                  exact ax_my168
                · skip
                  obtain rfl : y = 169 := by omega
                  exact ax_my169
      · skip
        rcases Nat.lt_or_ge y 182 with hy182 | hy182
        · skip
          rcases Nat.lt_or_ge y 176 with hy176 | hy176
          · skip
            rcases Nat.lt_or_ge y 173 with hy173 | hy173
            · skip
              rcases Nat.lt_or_ge y 171 with hy171 | hy171
              · skip
                obtain rfl : y = 170 := by omega
                exact ax_my170
              · skip
                rcases Nat.lt_or_ge y 172 with hy172 | hy172
                · skip
                  obtain rfl : y = 171 := by omega
                  exact ax_my171
                · skip
                  obtain rfl : y = 172 := by omega
                  exact ax_my172
            · skip
              rcases Nat.lt_or_ge y 174 with hy174 | hy174
              · skip
                obtain rfl : y = 173 := by omega
                exact ax_my173
              · skip
                rcases Nat.lt_or_ge y 175 with hy175 | hy175
                · skip
                  obtain rfl : y = 174 := by omega
                  exact ax_my174
                · skip
                  obtain rfl : y = 175 := by omega
                  exact ax_my175
          · skip
            rcases Nat.lt_or_ge y 179 with hy179 | hy179
            · skip
              rcases Nat.lt_or_ge y 177 with hy177 | hy177
              · skip
                obtain rfl : y = 176 := by omega
                exact ax_my176
              · skip
                rcases Nat.lt_or_ge y 178 with hy178 | hy178
                · skip
                  obtain rfl : y = 177 := by omega
                  exact ax_my177
                · skip
                  obtain rfl : y = 178 := by omega
                  exact ax_my178
            · skip
              rcases Nat.lt_or_ge y 180 with hy180 | hy180
              · skip
                obtain rfl : y = 179 := by omega
                exact ax_my179
              · skip
                rcases Nat.lt_or_ge y 181 with hy181 | hy181
                · skip
                  obtain rfl : y = 180 := by omega
                  exact ax_my180
                · skip
                  obtain rfl : y = 181 := by omega
                  exact ax_my181
        · skip
          rcases Nat.lt_or_ge y 188 with hy188 | hy188
          · skip
            rcases Nat.lt_or_ge y 185 with hy185 | hy185
            · skip
              rcases Nat.lt_or_ge y 183 with hy183 | hy183
              · skip
                obtain rfl : y = 182 := by omega
                exact ax_my182
              · skip
                rcases Nat.lt_or_ge y 184 with hy184 | hy184
                · skip
                  obtain rfl : y = 183 := by omega
                  exact ax_my183
                · skip
                  obtain rfl : y = 184 := by omega
                  exact ax_my184
            · skip
              rcases Nat.lt_or_ge y 186 with hy186 | hy186
              · skip
                obtain rfl : y = 185 := by omega
                exact ax_my185
              · skip
                rcases Nat.lt_or_ge y 187 with hy187 | hy187
                · skip
                  obtain rfl : y = 186 := by omega
                  exact ax_my186
                · skip
                  obtain rfl : y = 187 := by omega
                  exact ax_my187
          · skip
            rcases Nat.lt_or_ge y 191 with hy191 | hy191
            · skip
              rcases Nat.lt_or_ge y 189 with hy189 | hy189
              · skip
                obtain rfl : y = 188 := by omega
                exact ax_my188
              · skip
                rcases Nat.lt_or_ge y 190 with hy190 | hy190
                · skip
                  obtain rfl : y = 189 := by omega
                  exact ax_my189
                · skip
                  obtain rfl : y = 190 := by omega
                  exact ax_my190
            · skip
              rcases Nat.lt_or_ge y 193 with hy193 | hy193
              · skip
                rcases Nat.lt_or_ge y 192 with hy192 | hy192
                · skip
                  obtain rfl : y = 191 := by omega
                  exact ax_my191
                · skip
                  obtain rfl : y = 192 := by omega
                  exact ax_my192
              · skip
                rcases Nat.lt_or_ge y 194 with hy194 | hy194
                · skip
                  obtain rfl : y = 193 := by omega
                  exact ax_my193
                · skip
                  obtain rfl : y = 194 := by omega
                  exact ax_my194
end AXCW
