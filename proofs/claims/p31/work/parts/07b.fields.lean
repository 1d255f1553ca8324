/-! The fields of the kinds: their words, their types, their names. Printed by wip/whole/gen_fld.py. -/
section AXFL
set_option maxRecDepth 20000
theorem ax_clk : ∀ k, k < 9 → ax_cl[k]? = some (ax_kn k, ax_T k, ax_N k) := lt_s (lt_s (lt_s (lt_s (lt_s (lt_s (lt_s (lt_s (lt_s (lt_0) rfl) rfl) rfl) rfl) rfl) rfl) rfl) rfl) rfl
theorem ax_u0_0 : ax_gw (u_lay (ax_kn 0) (ax_T 0) 0) := ⟨ax_t1 (List.mem_of_getElem? (i := 70) rfl), rfl⟩
theorem ax_u0 : ∀ i, i < 1 → ax_gw (u_lay (ax_kn 0) (ax_T 0) i) := lt_s (lt_0) ax_u0_0
theorem ax_nm0 : ∀ a, a < 1 → ∀ b, b < 1 → a ≠ b → (ax_T0 a).2.1 ≠ (ax_T0 b).2.1 := by decide +kernel
theorem ax_u1_0 : ax_gw (u_lay (ax_kn 1) (ax_T 1) 0) := ⟨ax_t3 (List.mem_of_getElem? (i := 209) rfl), rfl⟩
theorem ax_u1_1 : ax_gw (u_lay (ax_kn 1) (ax_T 1) 1) := ⟨ax_t3 (List.mem_of_getElem? (i := 211) rfl), rfl⟩
theorem ax_u1_2 : ax_gw (u_lay (ax_kn 1) (ax_T 1) 2) := ⟨ax_t3 (List.mem_of_getElem? (i := 213) rfl), rfl⟩
theorem ax_u1 : ∀ i, i < 3 → ax_gw (u_lay (ax_kn 1) (ax_T 1) i) := lt_s (lt_s (lt_s (lt_0) ax_u1_0) ax_u1_1) ax_u1_2
theorem ax_nm1 : ∀ a, a < 3 → ∀ b, b < 3 → a ≠ b → (ax_T1 a).2.1 ≠ (ax_T1 b).2.1 := by decide +kernel
theorem ax_u2_0 : ax_gw (u_lay (ax_kn 2) (ax_T 2) 0) := ⟨ax_t3 (List.mem_of_getElem? (i := 70) rfl), rfl⟩
theorem ax_u2_1 : ax_gw (u_lay (ax_kn 2) (ax_T 2) 1) := ⟨ax_t3 (List.mem_of_getElem? (i := 72) rfl), rfl⟩
theorem ax_u2_2 : ax_gw (u_lay (ax_kn 2) (ax_T 2) 2) := ⟨ax_t3 (List.mem_of_getElem? (i := 74) rfl), rfl⟩
theorem ax_u2_3 : ax_gw (u_lay (ax_kn 2) (ax_T 2) 3) := ⟨ax_t3 (List.mem_of_getElem? (i := 76) rfl), rfl⟩
theorem ax_u2_4 : ax_gw (u_lay (ax_kn 2) (ax_T 2) 4) := ⟨ax_t3 (List.mem_of_getElem? (i := 78) rfl), rfl⟩
theorem ax_u2_5 : ax_gw (u_lay (ax_kn 2) (ax_T 2) 5) := ⟨ax_t3 (List.mem_of_getElem? (i := 80) rfl), rfl⟩
theorem ax_u2_6 : ax_gw (u_lay (ax_kn 2) (ax_T 2) 6) := ⟨ax_t3 (List.mem_of_getElem? (i := 82) rfl), rfl⟩
theorem ax_u2 : ∀ i, i < 7 → ax_gw (u_lay (ax_kn 2) (ax_T 2) i) := lt_s (lt_s (lt_s (lt_s (lt_s (lt_s (lt_s (lt_0) ax_u2_0) ax_u2_1) ax_u2_2) ax_u2_3) ax_u2_4) ax_u2_5) ax_u2_6
theorem ax_nm2 : ∀ a, a < 7 → ∀ b, b < 7 → a ≠ b → (ax_T2 a).2.1 ≠ (ax_T2 b).2.1 := by decide +kernel
theorem ax_u3_0 : ax_gw (u_lay (ax_kn 3) (ax_T 3) 0) := ⟨ax_t3 (List.mem_of_getElem? (i := 36) rfl), rfl⟩
theorem ax_u3_1 : ax_gw (u_lay (ax_kn 3) (ax_T 3) 1) := ⟨ax_t3 (List.mem_of_getElem? (i := 38) rfl), rfl⟩
theorem ax_u3_2 : ax_gw (u_lay (ax_kn 3) (ax_T 3) 2) := ⟨ax_t3 (List.mem_of_getElem? (i := 40) rfl), rfl⟩
theorem ax_u3 : ∀ i, i < 3 → ax_gw (u_lay (ax_kn 3) (ax_T 3) i) := lt_s (lt_s (lt_s (lt_0) ax_u3_0) ax_u3_1) ax_u3_2
theorem ax_nm3 : ∀ a, a < 3 → ∀ b, b < 3 → a ≠ b → (ax_T3 a).2.1 ≠ (ax_T3 b).2.1 := by decide +kernel
theorem ax_u4_0 : ax_gw (u_lay (ax_kn 4) (ax_T 4) 0) := ⟨ax_t3 (List.mem_of_getElem? (i := 1) rfl), rfl⟩
theorem ax_u4_1 : ax_gw (u_lay (ax_kn 4) (ax_T 4) 1) := ⟨ax_t3 (List.mem_of_getElem? (i := 3) rfl), rfl⟩
theorem ax_u4_2 : ax_gw (u_lay (ax_kn 4) (ax_T 4) 2) := ⟨ax_t3 (List.mem_of_getElem? (i := 5) rfl), rfl⟩
theorem ax_u4_3 : ax_gw (u_lay (ax_kn 4) (ax_T 4) 3) := ⟨ax_t3 (List.mem_of_getElem? (i := 7) rfl), rfl⟩
theorem ax_u4_4 : ax_gw (u_lay (ax_kn 4) (ax_T 4) 4) := ⟨ax_t3 (List.mem_of_getElem? (i := 9) rfl), rfl⟩
theorem ax_u4 : ∀ i, i < 5 → ax_gw (u_lay (ax_kn 4) (ax_T 4) i) := lt_s (lt_s (lt_s (lt_s (lt_s (lt_0) ax_u4_0) ax_u4_1) ax_u4_2) ax_u4_3) ax_u4_4
theorem ax_nm4 : ∀ a, a < 5 → ∀ b, b < 5 → a ≠ b → (ax_T4 a).2.1 ≠ (ax_T4 b).2.1 := by decide +kernel
theorem ax_u5_0 : ax_gw (u_lay (ax_kn 5) (ax_T 5) 0) := ⟨ax_t2 (List.mem_of_getElem? (i := 6) rfl), rfl⟩
theorem ax_u5_1 : ax_gw (u_lay (ax_kn 5) (ax_T 5) 1) := ⟨ax_t2 (List.mem_of_getElem? (i := 8) rfl), rfl⟩
theorem ax_u5_2 : ax_gw (u_lay (ax_kn 5) (ax_T 5) 2) := ⟨ax_t2 (List.mem_of_getElem? (i := 10) rfl), rfl⟩
theorem ax_u5_3 : ax_gw (u_lay (ax_kn 5) (ax_T 5) 3) := ⟨ax_t2 (List.mem_of_getElem? (i := 12) rfl), rfl⟩
theorem ax_u5_4 : ax_gw (u_lay (ax_kn 5) (ax_T 5) 4) := ⟨ax_t2 (List.mem_of_getElem? (i := 14) rfl), rfl⟩
theorem ax_u5_5 : ax_gw (u_lay (ax_kn 5) (ax_T 5) 5) := ⟨ax_t2 (List.mem_of_getElem? (i := 16) rfl), rfl⟩
theorem ax_u5_6 : ax_gw (u_lay (ax_kn 5) (ax_T 5) 6) := ⟨ax_t2 (List.mem_of_getElem? (i := 18) rfl), rfl⟩
theorem ax_u5_7 : ax_gw (u_lay (ax_kn 5) (ax_T 5) 7) := ⟨ax_t2 (List.mem_of_getElem? (i := 20) rfl), rfl⟩
theorem ax_u5_8 : ax_gw (u_lay (ax_kn 5) (ax_T 5) 8) := ⟨ax_t2 (List.mem_of_getElem? (i := 22) rfl), rfl⟩
theorem ax_u5_9 : ax_gw (u_lay (ax_kn 5) (ax_T 5) 9) := ⟨ax_t2 (List.mem_of_getElem? (i := 24) rfl), rfl⟩
theorem ax_u5 : ∀ i, i < 10 → ax_gw (u_lay (ax_kn 5) (ax_T 5) i) := lt_s (lt_s (lt_s (lt_s (lt_s (lt_s (lt_s (lt_s (lt_s (lt_s (lt_0) ax_u5_0) ax_u5_1) ax_u5_2) ax_u5_3) ax_u5_4) ax_u5_5) ax_u5_6) ax_u5_7) ax_u5_8) ax_u5_9
theorem ax_nm5 : ∀ a, a < 10 → ∀ b, b < 10 → a ≠ b → (ax_T5 a).2.1 ≠ (ax_T5 b).2.1 := by decide +kernel
theorem ax_u6_0 : ax_gw (u_lay (ax_kn 6) (ax_T 6) 0) := ⟨ax_t1 (List.mem_of_getElem? (i := 78) rfl), rfl⟩
theorem ax_u6_1 : ax_gw (u_lay (ax_kn 6) (ax_T 6) 1) := ⟨ax_t1 (List.mem_of_getElem? (i := 80) rfl), rfl⟩
theorem ax_u6_2 : ax_gw (u_lay (ax_kn 6) (ax_T 6) 2) := ⟨ax_t1 (List.mem_of_getElem? (i := 82) rfl), rfl⟩
theorem ax_u6_3 : ax_gw (u_lay (ax_kn 6) (ax_T 6) 3) := ⟨ax_t1 (List.mem_of_getElem? (i := 84) rfl), rfl⟩
theorem ax_u6_4 : ax_gw (u_lay (ax_kn 6) (ax_T 6) 4) := ⟨ax_t1 (List.mem_of_getElem? (i := 86) rfl), rfl⟩
theorem ax_u6 : ∀ i, i < 5 → ax_gw (u_lay (ax_kn 6) (ax_T 6) i) := lt_s (lt_s (lt_s (lt_s (lt_s (lt_0) ax_u6_0) ax_u6_1) ax_u6_2) ax_u6_3) ax_u6_4
theorem ax_nm6 : ∀ a, a < 5 → ∀ b, b < 5 → a ≠ b → (ax_T6 a).2.1 ≠ (ax_T6 b).2.1 := by decide +kernel
theorem ax_u7_0 : ax_gw (u_lay (ax_kn 7) (ax_T 7) 0) := ⟨ax_t1 (List.mem_of_getElem? (i := 70) rfl), rfl⟩
theorem ax_u7 : ∀ i, i < 1 → ax_gw (u_lay (ax_kn 7) (ax_T 7) i) := lt_s (lt_0) ax_u7_0
theorem ax_nm7 : ∀ a, a < 1 → ∀ b, b < 1 → a ≠ b → (ax_T7 a).2.1 ≠ (ax_T7 b).2.1 := by decide +kernel
theorem ax_u8_0 : ax_gw (u_lay (ax_kn 8) (ax_T 8) 0) := ⟨ax_t1 (List.mem_of_getElem? (i := 55) rfl), rfl⟩
theorem ax_u8_1 : ax_gw (u_lay (ax_kn 8) (ax_T 8) 1) := ⟨ax_t1 (List.mem_of_getElem? (i := 51) rfl), rfl⟩
theorem ax_u8_2 : ax_gw (u_lay (ax_kn 8) (ax_T 8) 2) := ⟨ax_t1 (List.mem_of_getElem? (i := 53) rfl), rfl⟩
theorem ax_u8 : ∀ i, i < 3 → ax_gw (u_lay (ax_kn 8) (ax_T 8) i) := lt_s (lt_s (lt_s (lt_0) ax_u8_0) ax_u8_1) ax_u8_2
theorem ax_nm8 : ∀ a, a < 3 → ∀ b, b < 3 → a ≠ b → (ax_T8 a).2.1 ≠ (ax_T8 b).2.1 := by decide +kernel
def ax_uP (k : Nat) : Prop := (∀ i, i < ax_N k → ax_gw (u_lay (ax_kn k) (ax_T k) i)) ∧ ∀ a, a < ax_N k → ∀ b, b < ax_N k → a ≠ b → (ax_T k a).2.1 ≠ (ax_T k b).2.1
theorem ax_u : ∀ k, k < 9 → ax_uP k := lt_s (lt_s (lt_s (lt_s (lt_s (lt_s (lt_s (lt_s (lt_s (lt_0) ⟨ax_u0, ax_nm0⟩) ⟨ax_u1, ax_nm1⟩) ⟨ax_u2, ax_nm2⟩) ⟨ax_u3, ax_nm3⟩) ⟨ax_u4, ax_nm4⟩) ⟨ax_u5, ax_nm5⟩) ⟨ax_u6, ax_nm6⟩) ⟨ax_u7, ax_nm7⟩) ⟨ax_u8, ax_nm8⟩
def ax_tyc (k i : Nat) : Bool := decide (parseFieldDescriptor (ax_T k i).2.2.1 = some (ax_ty k i)) && (match ax_fk k i, ax_ty k i with
  | 0, .int => true
  | 2, .boolean => true
  | 1, .object _ => true
  | 1, .array _ => true
  | _, _ => false)
theorem ax_tys : (List.range 9).all (fun k => (List.range (ax_N k)).all (fun i => ax_tyc k i)) = true := by decide +kernel
theorem ax_tyk {k i : Nat} (hk : k < 9) (hi : i < ax_N k) : ax_tyc k i = true := List.all_eq_true.mp (List.all_eq_true.mp ax_tys k (List.mem_range.mpr hk)) i (List.mem_range.mpr hi)
end AXFL
