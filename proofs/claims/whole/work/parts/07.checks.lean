/-! The tables of part 03 hold of the claim's code and words: by computation. -/
section AXC
def ax_Fw (q : Nat × Nat × Nat × Nat × Nat × Nat × Nat) : Cond := .fieldLink (ax_on q.1) q.2.1 (ax_on q.2.2.2.2.2.1) (ax_T q.2.2.1 q.2.2.2.1).2.1 (ax_T q.2.2.1 q.2.2.2.1).2.2.1
def ax_wat (p : Nat) (w : Cond) : Bool := decide (lw_tbl[p]? = some w) && goodWord w
def ax_LFc (q : Nat × Nat × Nat × Nat × Nat × Nat × Nat) : Bool := ax_wat q.2.2.2.2.2.2 (ax_Fw q) && Nat.blt q.2.2.1 9 && Nat.blt q.2.2.2.1 (ax_N q.2.2.1) && Nat.beq q.2.2.2.2.1 (ax_fk q.2.2.1 q.2.2.2.1) &&
  (decide (ax_on q.2.2.2.2.2.1 = (ax_T q.2.2.1 q.2.2.2.1).1) || (decide (ax_on q.2.2.2.2.2.1 = "java/util/ArrayList") && Nat.beq q.2.2.1 8 && Nat.beq q.2.2.2.1 0))
theorem ax_LF_ok : ax_LF.all ax_LFc = true := by decide +kernel
def ax_LMc (q : Nat × Nat × Nat × Nat × Nat × Nat × Nat × Nat × Nat × Nat) : Bool := match q with
  | (o, j, y, n, k, p1, p2, p3, p4, p5) => ax_wat p1 (.methodLink (ax_on o) j (ax_y y)) && Nat.beq p2 (ax_cp y) && Nat.blt y 195 && ax_wat p3 (bif Nat.beq k 1 then .static (ax_y y) else .instanceMethod (ax_y y)) && (bif Nat.beq k 0 then ax_wat p4 (.selects (ax_y y).cls (ax_y y) (ax_y y)) && decide (ax_kn (ax_ck y) = (ax_y y).cls) && Nat.blt (ax_ck y) 9 && (ax_hh y).isEmpty else true) && ax_wat p5 (.initialized (ax_y y).cls) &&
    decide ((parseMethodDescriptor (ax_y y).desc).map (fun d => d.parameters.length) = some n) && (bif Nat.beq k 2 then decide ((ax_y y).name = "<init>") && decide (ax_ret y = none) && (ax_hh y).isEmpty else true) && Nat.blt k 3 && Nat.ble (ax_L y) 19 && decide ((ax_y y).cls ≠ "java/lang/invoke/MethodHandle" ∧ (ax_y y).cls ≠ "java/lang/invoke/VarHandle") && Jvm.plainName (ax_y y).cls && decide (ax_on (ax_own y) = (ax_y y).cls)
theorem ax_LM_ok : ax_LM.all ax_LMc = true := by decide +kernel
def ax_gcN : MethodName := ⟨"java/lang/Object", "getClass", "()Ljava/lang/Class;"⟩
def ax_oN (f : Nat) : MethodName := match f with
  | 1 => objectInit
  | 2 => arraycopyName
  | 3 => ax_gcN
  | 4 => Lib.Math.max.name
  | _ => Lib.Math.min.name
def ax_LOc (q : Nat × Nat × Nat × Nat) : Bool := match q with
  | (o, j, f, p) => ax_wat p (.methodLink (ax_on o) j (ax_oN f)) && Nat.blt f 6 && Nat.blt 0 f
theorem ax_LO_ok : ax_LO.all ax_LOc = true := by decide +kernel
def ax_LNc (q : Nat × Nat × Nat × Nat × Nat × Nat × Nat) : Bool := match q with
  | (o, j, k, n, p1, p2, p3) => ax_wat p1 (.classLink (ax_on o) j (ax_kn k)) && ax_wat p2 (.instantiable (ax_kn k) n) && ax_wat p3 (.initialized (ax_kn k)) && Nat.blt k 9 && Nat.beq n (ax_N k)
theorem ax_LN_ok : ax_LN.all ax_LNc = true := by decide +kernel
def ax_an (k : Nat) : String := bif Nat.beq k 23 then "java/lang/Object" else "PipelineRunner$Job"
def ax_LAc (q : Nat × Nat × Nat × Nat × Nat) : Bool := match q with
  | (o, j, k, p1, p2) => ax_wat p1 (.classLink (ax_on o) j (ax_an k)) && decide (lw_tbl[p2]? = some (.arrayOver (.object (ax_an k)))) && (Nat.beq k 23 || Nat.beq k 24)
theorem ax_LA_ok : ax_LA.all ax_LAc = true := by decide +kernel
def ax_LCc (q : Nat × Nat × Nat × Nat) : Bool := match q with
  | (o, j, k, p) => ax_wat p (.classLink (ax_on o) j (ax_kn k)) && Nat.blt k 9
theorem ax_LC_ok : ax_LC.all ax_LCc = true := by decide +kernel
def ax_LDc (q : Nat × Nat × Int32 × Nat) : Bool := match q with
  | (o, j, v, p) => ax_wat p (.constant (ax_on o) j v)
theorem ax_LD_ok : ax_LD.all ax_LDc = true := by decide +kernel
/-- an instruction and what the table says of it -/
def ax_ick (y pc : Nat) (en : ax_En) : Bool := match en with
  | (i, nx, a, b, f, v) => match i with
    | .iconst n => decide (Int32.ofInt n = v)
    | .bipush n => decide ((Int8.ofInt n).toInt32 = v)
    | .sipush n => decide ((Int16.ofInt n).toInt32 = v)
    | .ldc j => bif Nat.beq f 1 then Nat.beq j 110 && decide ((ax_y y).cls = "java/util/Arrays") else ax_LD.any (fun q => Nat.beq q.1 (ax_own y) && Nat.beq q.2.1 j && decide (q.2.2.1 = v))
    | .ldc_w j => bif Nat.beq f 1 then true else ax_LD.any (fun q => Nat.beq q.1 (ax_own y) && Nat.beq q.2.1 j && decide (q.2.2.1 = v))
    | .iload_n k => Nat.beq k.val a
    | .iload k => Nat.beq k a
    | .aload_n k => Nat.beq k.val a
    | .aload k => Nat.beq k a
    | .istore_n k => Nat.beq k.val a
    | .istore k => Nat.beq k a
    | .astore_n k => Nat.beq k.val a
    | .astore k => Nat.beq k a
    | .iinc k n => Nat.beq k a && decide (Int32.ofInt n = v)
    | .goto o => decide ((pc : Int) + o = (a : Int))
    | .ifCond _ o => decide ((pc : Int) + o = (a : Int))
    | .if_icmp _ o => decide ((pc : Int) + o = (a : Int))
    | .if_acmp _ o => decide ((pc : Int) + o = (a : Int))
    | .ifnull o => decide ((pc : Int) + o = (a : Int))
    | .ifnonnull o => decide ((pc : Int) + o = (a : Int))
    | .getfield j => ax_LF.any (fun q => Nat.beq q.1 (ax_own y) && Nat.beq q.2.1 j && Nat.beq q.2.2.1 a && Nat.beq q.2.2.2.1 b && Nat.beq q.2.2.2.2.1 f)
    | .putfield j => ax_LF.any (fun q => Nat.beq q.1 (ax_own y) && Nat.beq q.2.1 j && Nat.beq q.2.2.1 a && Nat.beq q.2.2.2.1 b && Nat.beq q.2.2.2.2.1 f) && (bif (ax_T a b).2.2.2 then decide ((ax_y y).name = "<init>") && decide ((ax_T a b).1 = (ax_y y).cls) else true)
    | .getstatic j => Nat.beq j 39 && decide ((ax_y y).cls = "java/util/ArrayList")
    | .iaload => Nat.beq a 20 || Nat.beq a 25
    | .aaload => Nat.beq a 23 || Nat.beq a 24
    | .aastore => Nat.beq a 23 || Nat.beq a 24
    | .new j => bif Nat.beq f 1 then ax_LT.any (fun q => Nat.beq q.1 y && Nat.beq q.2.1 pc && Nat.beq q.2.2.1 a && Nat.beq q.2.2.2.1 j) else ax_LN.any (fun q => Nat.beq q.1 (ax_own y) && Nat.beq q.2.1 j && Nat.beq q.2.2.1 a && Nat.beq q.2.2.2.1 b)
    | .newarray t => decide (t = .int ∧ a = 20 ∨ t = .boolean ∧ a = 21 ∨ t = .long ∧ a = 22)
    | .anewarray j => ax_LA.any (fun q => Nat.beq q.1 (ax_own y) && Nat.beq q.2.1 j && Nat.beq q.2.2.1 a)
    | .checkcast j => ax_LC.any (fun q => Nat.beq q.1 (ax_own y) && Nat.beq q.2.1 j && Nat.beq q.2.2.1 a)
    | .tableswitch _ lo hi os => Nat.beq a pc && decide (os.size = (hi - lo).toNat + 1) && decide (lo ≤ hi)
    | .invokevirtual j => bif Nat.beq f 3 then ax_LO.any (fun q => Nat.beq q.1 (ax_own y) && Nat.beq q.2.1 j && Nat.beq q.2.2.1 3) else ax_LM.any (fun q => Nat.beq q.1 (ax_own y) && Nat.beq q.2.1 j && Nat.beq q.2.2.1 a && Nat.beq q.2.2.2.1 b && Nat.beq q.2.2.2.2.1 0)
    | .invokespecial j => bif Nat.beq f 1 then ax_LO.any (fun q => Nat.beq q.1 (ax_own y) && Nat.beq q.2.1 j && Nat.beq q.2.2.1 1) else ax_LM.any (fun q => Nat.beq q.1 (ax_own y) && Nat.beq q.2.1 j && Nat.beq q.2.2.1 a && Nat.beq q.2.2.2.1 b && Nat.beq q.2.2.2.2.1 2)
    | .invokestatic j => bif Nat.beq f 2 || Nat.beq f 4 || Nat.beq f 5 then ax_LO.any (fun q => Nat.beq q.1 (ax_own y) && Nat.beq q.2.1 j && Nat.beq q.2.2.1 f) else ax_LM.any (fun q => Nat.beq q.1 (ax_own y) && Nat.beq q.2.1 j && Nat.beq q.2.2.1 a && Nat.beq q.2.2.2.1 b && Nat.beq q.2.2.2.2.1 1)
    | .ireturn => decide (ax_ret y = some .int ∧ f = 0 ∨ ax_ret y = some .boolean ∧ f = 1)
    | .areturn => match ax_ret y with
      | some (.object _) => true
      | some (.array _) => true
      | _ => false
    | .return_ => decide (ax_ret y = none)
    | _ => true
noncomputable def ax_chk (y pc : Nat) : Bool := match ax_code y pc with
  | none => true
  | some en => decide (decode (ax_b y) pc = .ok (en.1, en.2.1 - pc)) && Nat.blt pc en.2.1 && ax_ick y pc en
noncomputable def ax_chks (y : Nat) : Bool := (List.range (ax_len y)).all (fun pc => ax_chk y pc)
set_option maxRecDepth 100000 in
theorem ax_c0 : ((List.range 30)).all ax_chks = true := by decide +kernel
end AXC
