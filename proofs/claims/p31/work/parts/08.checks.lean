/-! The tables of part 03 hold of the claim's code: by computation. -/
section AXC
/-- lengths of the instructions that the machine knows -/
def ax_il (i : Instr) : Nat := match i with
  | .bipush _ => 2
  | .sipush _ => 3
  | .ldc _ => 2
  | .ldc_w _ => 3
  | .iload _ => 2
  | .aload _ => 2
  | .istore _ => 2
  | .astore _ => 2
  | .iinc _ _ => 3
  | .goto _ => 3
  | .ifCond _ _ => 3
  | .if_icmp _ _ => 3
  | .if_acmp _ _ => 3
  | .ifnull _ => 3
  | .ifnonnull _ => 3
  | .getfield _ => 3
  | .putfield _ => 3
  | .getstatic _ => 3
  | .new _ => 3
  | .newarray _ => 2
  | .anewarray _ => 3
  | .checkcast _ => 3
  | .invokevirtual _ => 3
  | .invokespecial _ => 3
  | .invokestatic _ => 3
  | _ => 1
def ax_il1 (i : Instr) : Nat := match i with
  | .tableswitch _ _ _ _ => 1
  | _ => 0
/-- an instruction and what the table says of it -/
def ax_ick (y pc : Nat) (en : ax_En) : Bool := match en with
  | (i, _, a, b, f, v) => match i with
    | .iconst n => decide (Int32.ofInt n = v)
    | .bipush n => decide ((Int8.ofInt n).toInt32 = v)
    | .sipush n => decide ((Int16.ofInt n).toInt32 = v)
    | .ldc j => bif Nat.beq f 1 then Nat.beq j 110 && Nat.beq (ax_own y) 12 else ax_LD.any (fun q => Nat.beq q.1 (ax_own y) && Nat.beq q.2.1 j && decide (q.2.2.1 = v))
    | .ldc_w j => bif Nat.beq f 1 then true else ax_LD.any (fun q => Nat.beq q.1 (ax_own y) && Nat.beq q.2.1 j && decide (q.2.2.1 = v))
    | .iload_n k => Nat.beq k.val a
    | .iload k => Nat.beq k a
    | .aload_n k => Nat.beq k.val a
    | .aload k => Nat.beq k a
    | .istore_n k => Nat.beq k.val a
    | .istore k => Nat.beq k a
    | .astore_n k => Nat.beq k.val a
    | .astore k => Nat.beq k a
    | .iinc k n => Nat.beq k a && decide (Int32.ofInt n = v)
    | .goto o => decide ((pc : Int) + o = (a : Int))
    | .ifCond _ o => decide ((pc : Int) + o = (a : Int))
    | .if_icmp _ o => decide ((pc : Int) + o = (a : Int))
    | .if_acmp _ o => decide ((pc : Int) + o = (a : Int))
    | .ifnull o => decide ((pc : Int) + o = (a : Int))
    | .ifnonnull o => decide ((pc : Int) + o = (a : Int))
    | .getfield j => ax_LF.any (fun q => Nat.beq q.1 (ax_own y) && Nat.beq q.2.1 j && Nat.beq q.2.2.1 a && Nat.beq q.2.2.2.1 b && Nat.beq q.2.2.2.2.1 f)
    | .putfield j => ax_LF.any (fun q => Nat.beq q.1 (ax_own y) && Nat.beq q.2.1 j && Nat.beq q.2.2.1 a && Nat.beq q.2.2.2.1 b && Nat.beq q.2.2.2.2.1 f) && (bif (ax_T a b).2.2.2 then Nat.beq (ax_op y) 2 && Nat.beq (ax_ck y) a else true)
    | .getstatic j => Nat.beq j 39 && Nat.beq (ax_own y) 11
    | .iaload => Nat.beq a 20 || Nat.beq a 25
    | .aaload => Nat.beq a 23 || Nat.beq a 24
    | .aastore => Nat.beq a 23 || Nat.beq a 24
    | .new j => bif Nat.beq f 1 then ax_LT.any (fun q => Nat.beq q.1 y && Nat.beq q.2.1 pc && Nat.beq q.2.2.1 a && Nat.beq q.2.2.2.1 j) else ax_LN.any (fun q => Nat.beq q.1 (ax_own y) && Nat.beq q.2.1 j && Nat.beq q.2.2.1 a && Nat.beq q.2.2.2.1 b)
    | .newarray t => decide (t = .int ∧ a = 20)
    | .anewarray j => ax_LA.any (fun q => Nat.beq q.1 (ax_own y) && Nat.beq q.2.1 j && Nat.beq q.2.2.1 a)
    | .checkcast j => ax_LC.any (fun q => Nat.beq q.1 (ax_own y) && Nat.beq q.2.1 j && Nat.beq q.2.2.1 a)
    | .tableswitch d lo hi os => Nat.beq a pc && decide (0 ≤ d + (pc : Int)) && decide (os.size = (hi - lo).toNat + 1) && decide (lo ≤ hi) && os.toList.all (fun o => decide (0 ≤ o + (pc : Int)))
    | .invokevirtual j => bif Nat.beq f 3 then ax_LO.any (fun q => Nat.beq q.1 (ax_own y) && Nat.beq q.2.1 j && Nat.beq q.2.2.1 3) else ax_LM.any (fun q => Nat.beq q.1 (ax_own y) && Nat.beq q.2.1 j && Nat.beq q.2.2 a) && Nat.beq (ax_op a) 0 && Nat.beq (ax_na a) b
    | .invokespecial j => bif Nat.beq f 1 then ax_LO.any (fun q => Nat.beq q.1 (ax_own y) && Nat.beq q.2.1 j && Nat.beq q.2.2.1 1) else ax_LM.any (fun q => Nat.beq q.1 (ax_own y) && Nat.beq q.2.1 j && Nat.beq q.2.2 a) && Nat.beq (ax_op a) 2 && Nat.beq (ax_na a) b
    | .invokestatic j => bif Nat.beq f 2 || Nat.beq f 4 || Nat.beq f 5 then ax_LO.any (fun q => Nat.beq q.1 (ax_own y) && Nat.beq q.2.1 j && Nat.beq q.2.2.1 f) else ax_LM.any (fun q => Nat.beq q.1 (ax_own y) && Nat.beq q.2.1 j && Nat.beq q.2.2 a) && Nat.beq (ax_op a) 1 && Nat.beq (ax_na a) b
    | .ireturn => decide (ax_ret y = some .int ∧ f = 0 ∨ ax_ret y = some .boolean ∧ f = 1)
    | .areturn => match ax_ret y with
      | some (.object _) => true
      | some (.array _) => true
      | _ => false
    | .return_ => (ax_ret y).isNone
    | _ => true
noncomputable def ax_chk (y pc : Nat) : Bool := match ax_code y pc with
  | none => true
  | some en => decide (decode (ax_b y) pc = .ok (en.1, en.2.1 - pc)) && (bif Nat.beq (ax_il1 en.1) 1 then Nat.blt pc en.2.1 else Nat.beq en.2.1 (pc + ax_il en.1)) && ax_ick y pc en
noncomputable def ax_chks (y : Nat) : Bool := (List.range (ax_len y)).all (fun pc => ax_chk y pc)
set_option maxRecDepth 100000 in
theorem ax_c0 : (List.range 15).all (fun i => ax_chks (0 + i)) = true := by decide +kernel
set_option maxRecDepth 100000 in
theorem ax_c1 : (List.range 15).all (fun i => ax_chks (15 + i)) = true := by decide +kernel
set_option maxRecDepth 100000 in
theorem ax_c2 : (List.range 15).all (fun i => ax_chks (30 + i)) = true := by decide +kernel
set_option maxRecDepth 100000 in
theorem ax_c3 : (List.range 15).all (fun i => ax_chks (45 + i)) = true := by decide +kernel
set_option maxRecDepth 100000 in
theorem ax_c4 : (List.range 15).all (fun i => ax_chks (60 + i)) = true := by decide +kernel
set_option maxRecDepth 100000 in
theorem ax_c5 : (List.range 15).all (fun i => ax_chks (75 + i)) = true := by decide +kernel
set_option maxRecDepth 100000 in
theorem ax_c6 : (List.range 15).all (fun i => ax_chks (90 + i)) = true := by decide +kernel
set_option maxRecDepth 100000 in
theorem ax_c7 : (List.range 15).all (fun i => ax_chks (105 + i)) = true := by decide +kernel
set_option maxRecDepth 100000 in
theorem ax_c8 : (List.range 15).all (fun i => ax_chks (120 + i)) = true := by decide +kernel
set_option maxRecDepth 100000 in
theorem ax_c9 : (List.range 15).all (fun i => ax_chks (135 + i)) = true := by decide +kernel
set_option maxRecDepth 100000 in
theorem ax_c10 : (List.range 15).all (fun i => ax_chks (150 + i)) = true := by decide +kernel
set_option maxRecDepth 100000 in
theorem ax_c11 : (List.range 15).all (fun i => ax_chks (165 + i)) = true := by decide +kernel
set_option maxRecDepth 100000 in
theorem ax_c12 : (List.range 15).all (fun i => ax_chks (180 + i)) = true := by decide +kernel
set_option maxRecDepth 100000 in
theorem ax_cL0 : (List.range 60).all (fun i => ax_chk 195 (0 + i)) = true := by decide +kernel
set_option maxRecDepth 100000 in
theorem ax_cL1 : (List.range 60).all (fun i => ax_chk 195 (60 + i)) = true := by decide +kernel
set_option maxRecDepth 100000 in
theorem ax_cL2 : (List.range 60).all (fun i => ax_chk 195 (120 + i)) = true := by decide +kernel
set_option maxRecDepth 100000 in
theorem ax_cL3 : (List.range 60).all (fun i => ax_chk 195 (180 + i)) = true := by decide +kernel
set_option maxRecDepth 100000 in
theorem ax_cL4 : (List.range 60).all (fun i => ax_chk 195 (240 + i)) = true := by decide +kernel
set_option maxRecDepth 100000 in
theorem ax_cL5 : (List.range 60).all (fun i => ax_chk 195 (300 + i)) = true := by decide +kernel
set_option maxRecDepth 100000 in
theorem ax_cL6 : (List.range 60).all (fun i => ax_chk 195 (360 + i)) = true := by decide +kernel
set_option maxRecDepth 100000 in
theorem ax_cL7 : (List.range 60).all (fun i => ax_chk 195 (420 + i)) = true := by decide +kernel
set_option maxRecDepth 100000 in
theorem ax_cL8 : (List.range 60).all (fun i => ax_chk 195 (480 + i)) = true := by decide +kernel
set_option maxRecDepth 100000 in
theorem ax_cL9 : (List.range 60).all (fun i => ax_chk 195 (540 + i)) = true := by decide +kernel
set_option maxRecDepth 100000 in
theorem ax_cL10 : (List.range 13).all (fun i => ax_chk 195 (600 + i)) = true := by decide +kernel
theorem ax_cLS {lo n : Nat} (h : (List.range n).all (fun i => ax_chk 195 (lo + i)) = true) {y : Nat} (h1 : lo ≤ y) (h2 : y < lo + n) : ax_chk 195 y = true := by
  have := List.all_eq_true.mp h (y - lo) (List.mem_range.mpr (by omega))
  rwa [show lo + (y - lo) = y by omega] at this
theorem ax_cL {pc : Nat} (hp : pc < 613) : ax_chk 195 pc = true := by
  by_cases g0 : pc < 60
  · exact ax_cLS ax_cL0 (by omega) (by omega)
  by_cases g1 : pc < 120
  · exact ax_cLS ax_cL1 (by omega) (by omega)
  by_cases g2 : pc < 180
  · exact ax_cLS ax_cL2 (by omega) (by omega)
  by_cases g3 : pc < 240
  · exact ax_cLS ax_cL3 (by omega) (by omega)
  by_cases g4 : pc < 300
  · exact ax_cLS ax_cL4 (by omega) (by omega)
  by_cases g5 : pc < 360
  · exact ax_cLS ax_cL5 (by omega) (by omega)
  by_cases g6 : pc < 420
  · exact ax_cLS ax_cL6 (by omega) (by omega)
  by_cases g7 : pc < 480
  · exact ax_cLS ax_cL7 (by omega) (by omega)
  by_cases g8 : pc < 540
  · exact ax_cLS ax_cL8 (by omega) (by omega)
  by_cases g9 : pc < 600
  · exact ax_cLS ax_cL9 (by omega) (by omega)
  exact ax_cLS ax_cL10 (by omega) (by omega)
theorem ax_c13 : ax_chks 195 = true := List.all_eq_true.mpr fun pc h => ax_cL (List.mem_range.mp h)
theorem ax_cS {lo n : Nat} (h : (List.range n).all (fun i => ax_chks (lo + i)) = true) {y : Nat} (h1 : lo ≤ y) (h2 : y < lo + n) : ax_chks y = true := by
  have := List.all_eq_true.mp h (y - lo) (List.mem_range.mpr (by omega))
  rwa [show lo + (y - lo) = y by omega] at this
theorem ax_call_ok {y : Nat} (hy : y < 196) : ax_chks y = true := by
  by_cases g0 : y < 15
  · exact ax_cS ax_c0 (by omega) (by omega)
  by_cases g1 : y < 30
  · exact ax_cS ax_c1 (by omega) (by omega)
  by_cases g2 : y < 45
  · exact ax_cS ax_c2 (by omega) (by omega)
  by_cases g3 : y < 60
  · exact ax_cS ax_c3 (by omega) (by omega)
  by_cases g4 : y < 75
  · exact ax_cS ax_c4 (by omega) (by omega)
  by_cases g5 : y < 90
  · exact ax_cS ax_c5 (by omega) (by omega)
  by_cases g6 : y < 105
  · exact ax_cS ax_c6 (by omega) (by omega)
  by_cases g7 : y < 120
  · exact ax_cS ax_c7 (by omega) (by omega)
  by_cases g8 : y < 135
  · exact ax_cS ax_c8 (by omega) (by omega)
  by_cases g9 : y < 150
  · exact ax_cS ax_c9 (by omega) (by omega)
  by_cases g10 : y < 165
  · exact ax_cS ax_c10 (by omega) (by omega)
  by_cases g11 : y < 180
  · exact ax_cS ax_c11 (by omega) (by omega)
  by_cases g12 : y < 195
  · exact ax_cS ax_c12 (by omega) (by omega)
  obtain rfl : y = 195 := by omega
  exact ax_c13
theorem ax_code_chk {y pc : Nat} {en : ax_En} (h : ax_code y pc = some en) : y < 196 ∧ ax_chk y pc = true := by
  have h0 := h
  unfold ax_code at h
  cases q : Nat.blt y 196 with
  | false => rw [q] at h; cases h
  | true =>
    have hy := Nat.blt_eq.mp q
    rw [q] at h
    cases q2 : Nat.blt pc (ax_len y) with
    | false => rw [q2] at h; cases h
    | true => exact ⟨hy, List.all_eq_true.mp (ax_call_ok hy) pc (List.mem_range.mpr (Nat.blt_eq.mp q2))⟩
/-- what the checks give of one place -/
theorem ax_code_ok {y pc : Nat} {i : Instr} {nx a b f : Nat} {v : Int32} (h : ax_code y pc = some (i, nx, a, b, f, v)) : y < 196 ∧ decode (ax_b y) pc = .ok (i, nx - pc) ∧ (ax_il1 i = 0 → nx = pc + ax_il i) ∧ pc ≤ nx ∧ ax_ick y pc (i, nx, a, b, f, v) = true := by
  obtain ⟨hy, hc⟩ := ax_code_chk h
  unfold ax_chk at hc
  rw [h] at hc
  simp only [Bool.and_eq_true, decide_eq_true_eq] at hc
  obtain ⟨⟨h1, h2⟩, h3⟩ := hc
  refine ⟨hy, h1, fun q => ?_, ?_, h3⟩
  · rw [q] at h2
    exact Nat.eq_of_beq_eq_true h2
  · cases q : Nat.beq (ax_il1 i) 1 with
    | true => rw [q] at h2; exact Nat.le_of_lt (Nat.blt_eq.mp h2)
    | false => rw [q] at h2; have := Nat.eq_of_beq_eq_true h2; omega
/-- the handlers' rows: a store, a number, a return -/
def ax_hrc (r : Nat × Nat × Nat × Nat × Nat × Int32 × Nat × Nat × Nat) : Bool := match r with
  | (y, E, h, sl, l0, v, lo, hi, t) => (decide (decode (ax_b y) h = .ok (.astore sl, l0)) && Nat.beq l0 2 || (List.range 4).any (fun k => decide (decode (ax_b y) h = .ok (.astore_n (Fin.ofNat 4 k), l0)) && Nat.beq k sl) && Nat.beq l0 1) && (decide (decode (ax_b y) (h + l0) = .ok (.bipush (-60), 2)) && decide (v = -60) && decide (decode (ax_b y) (h + l0 + 2) = .ok (.ireturn, 1)) && decide (ax_ret y = some .int) || decide (decode (ax_b y) (h + l0) = .ok (.iconst 0, 1)) && decide (v = 0) && decide (decode (ax_b y) (h + l0 + 1) = .ok (.ireturn, 1)) && decide (ax_ret y = some .int ∨ ax_ret y = some .boolean)) && Nat.blt sl (ax_L y) && Nat.blt E 3 && decide (ax_hh y ≠ [])
theorem ax_hrs : ax_HR.all ax_hrc = true := by decide +kernel
end AXC
