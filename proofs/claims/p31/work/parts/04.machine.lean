/-! An abstract machine over one typed heap. Values: a number, a long, a reference (0 is null), nothing. The heap: the next reference, the slots used; of each reference its kind and length; numbers, longs and references by kind, place and reference. -/
section AXM
abbrev AV : Type := (Int32 ⊕ Int64) ⊕ (Nat ⊕ Unit)
abbrev aI (x : Int32) : AV := .inl (.inl x)
abbrev aJ (x : Int64) : AV := .inl (.inr x)
abbrev aR (r : Nat) : AV := .inr (.inl r)
abbrev aU : AV := .inr (.inr ())
abbrev SG : Type := (Nat × Nat) × (Nat → Nat × Nat) × (Nat → Nat → Nat → Int32) × (Nat → Nat → Nat → Int64) × (Nat → Nat → Nat → Nat)
def sgZ (σ : SG) : Nat := σ.1.1
def sgU (σ : SG) : Nat := σ.1.2
def sgK (σ : SG) (r : Nat) : Nat × Nat := σ.2.1 r
def sgI (σ : SG) (k i r : Nat) : Int32 := σ.2.2.1 k i r
def sgJ (σ : SG) (k i r : Nat) : Int64 := σ.2.2.2.1 k i r
def sgR (σ : SG) (k i r : Nat) : Nat := σ.2.2.2.2 k i r
def up3 {α : Type} (f : Nat → Nat → Nat → α) (k i r : Nat) (v : α) : Nat → Nat → Nat → α := fun k' i' r' => if k' = k ∧ i' = i ∧ r' = r then v else f k' i' r'
def clr {α : Type} (f : Nat → Nat → Nat → α) (k r : Nat) (v : α) : Nat → Nat → Nat → α := fun k' i' r' => if k' = k ∧ r' = r then v else f k' i' r'
def putI (σ : SG) (k i r : Nat) (v : Int32) : SG := (σ.1, σ.2.1, up3 σ.2.2.1 k i r v, σ.2.2.2.1, σ.2.2.2.2)
def putJ (σ : SG) (k i r : Nat) (v : Int64) : SG := (σ.1, σ.2.1, σ.2.2.1, up3 σ.2.2.2.1 k i r v, σ.2.2.2.2)
def putR (σ : SG) (k i r : Nat) (v : Nat) : SG := (σ.1, σ.2.1, σ.2.2.1, σ.2.2.2.1, up3 σ.2.2.2.2 k i r v)
/-- a new thing of kind k and length n -/
def mkC (σ : SG) (k n : Nat) : SG := ((sgZ σ + 1, sgU σ + n), va_up σ.2.1 (sgZ σ) (k, n), clr σ.2.2.1 k (sgZ σ) 0, clr σ.2.2.2.1 k (sgZ σ) 0, clr σ.2.2.2.2 k (sgZ σ) 0)
/-- an exception's object: a place that nothing more is known of -/
def thrC (σ : SG) : SG := ((sgZ σ + 1, sgU σ + 6), σ.2)
def cpyC (σ : SG) (src sp dst dp n : Nat) : SG := (σ.1, σ.2.1, σ.2.2.1, σ.2.2.2.1, fun k i r => if k = 23 ∧ r = dst then va_cpy (fun j => sgR σ 23 j src) (fun j => sgR σ 23 j dst) sp dp n i else sgR σ k i r)
abbrev FRM : Type := Nat × List AV × List AV
/-- a step's end: the next place; a call; a return; a throw -/
abbrev SR : Type := (FRM × SG) ⊕ ((Nat × List AV × FRM × SG) ⊕ ((AV × SG) ⊕ (Nat × SG)))
abbrev SM : Type := SR ⊕ ((Prop × SR) ⊕ (Prop × SR × SR))
abbrev Res : Type := AV ⊕ Nat
abbrev ax_go (nx : Nat) (L st : List AV) (σ : SG) : Option SM := some (.inl (.inl ((nx, L, st), σ)))
abbrev ax_gd (p : Prop) (nx : Nat) (L st : List AV) (σ : SG) : Option SM := some (.inr (.inl (p, .inl ((nx, L, st), σ))))
abbrev ax_br (p : Prop) (t n : Nat) (L st : List AV) (σ : SG) : Option SM := some (.inr (.inr (p, .inl ((t, L, st), σ), .inl ((n, L, st), σ))))
def ax_ld (nx a : Nat) (L st : List AV) (σ : SG) : Option SM := match L[a]? with
  | some (.inl (.inl x)) => ax_go nx L (aI x :: st) σ
  | _ => none
def ax_lda (nx a : Nat) (L st : List AV) (σ : SG) : Option SM := match L[a]? with
  | some (.inr (.inl x)) => ax_go nx L (aR x :: st) σ
  | _ => none
def ax_sto (nx a : Nat) (L st : List AV) (σ : SG) : Option SM := match st with
  | .inl (.inl x) :: st => bif Nat.blt a L.length then ax_go nx (L.set a (aI x)) st σ else none
  | _ => none
def ax_stoa (nx a : Nat) (L st : List AV) (σ : SG) : Option SM := match st with
  | .inr (.inl x) :: st => bif Nat.blt a L.length then ax_go nx (L.set a (aR x)) st σ else none
  | _ => none
def ax_inc (nx a : Nat) (v : Int32) (L st : List AV) (σ : SG) : Option SM := match L[a]? with
  | some (.inl (.inl x)) => ax_go nx (L.set a (aI (x + v))) st σ
  | _ => none
def ax_bin (g : Int32 → Int32 → Int32) (nx : Nat) (L st : List AV) (σ : SG) : Option SM := match st with
  | .inl (.inl y) :: .inl (.inl x) :: st => ax_go nx L (aI (g x y) :: st) σ
  | _ => none
def ax_dv (g : Int32 → Int32 → Int32) (nx : Nat) (L st : List AV) (σ : SG) : Option SM := match st with
  | .inl (.inl y) :: .inl (.inl x) :: st => ax_gd (¬ y = 0) nx L (aI (g x y) :: st) σ
  | _ => none
def ax_binJ (g : Int64 → Int64 → Int64) (nx : Nat) (L st : List AV) (σ : SG) : Option SM := match st with
  | .inl (.inr y) :: .inl (.inr x) :: st => ax_go nx L (aJ (g x y) :: st) σ
  | _ => none
def ax_shJ (g : Int64 → Int32 → Int64) (nx : Nat) (L st : List AV) (σ : SG) : Option SM := match st with
  | .inl (.inl y) :: .inl (.inr x) :: st => ax_go nx L (aJ (g x y) :: st) σ
  | _ => none
def ax_if (g : Int32 → Prop) (t n : Nat) (L st : List AV) (σ : SG) : Option SM := match st with
  | .inl (.inl x) :: st => ax_br (g x) t n L st σ
  | _ => none
def ax_if2 (g : Int32 → Int32 → Prop) (t n : Nat) (L st : List AV) (σ : SG) : Option SM := match st with
  | .inl (.inl y) :: .inl (.inl x) :: st => ax_br (g x y) t n L st σ
  | _ => none
def ax_nul (t n : Nat) (L st : List AV) (σ : SG) : Option SM := match st with
  | .inr (.inl r) :: st => ax_br (r = 0) t n L st σ
  | _ => none
/-- references that are compared are the same in this claim -/
def ax_acmp (t : Nat) (L st : List AV) (σ : SG) : Option SM := match st with
  | .inr (.inl y) :: .inr (.inl x) :: st => ax_gd (x = y) t L st σ
  | _ => none
def ax_get (nx k i f : Nat) (L st : List AV) (σ : SG) : Option SM := match st with
  | .inr (.inl r) :: st => ax_gd ((sgK σ r).1 = k) nx L ((bif Nat.beq f 1 then aR (sgR σ k i r) else aI (sgI σ k i r)) :: st) σ
  | _ => none
def ax_put (nx k i f : Nat) (L st : List AV) (σ : SG) : Option SM := match f with
  | 0 => match st with
    | .inl (.inl x) :: .inr (.inl r) :: st => ax_gd ((sgK σ r).1 = k) nx L st (putI σ k i r x)
    | _ => none
  | 1 => match st with
    | .inr (.inl x) :: .inr (.inl r) :: st => ax_gd ((sgK σ r).1 = k) nx L st (putR σ k i r x)
    | _ => none
  | _ => match st with
    | .inl (.inl x) :: .inr (.inl r) :: st => ax_gd ((x = 0 ∨ x = 1) ∧ (sgK σ r).1 = k) nx L st (putI σ k i r x)
    | _ => none
/-- the row r of kind k has the place i -/
def ax_in (σ : SG) (k r : Nat) (i : Int32) : Prop := (sgK σ r).1 = k ∧ vp_in i (sgK σ r).2
def ax_ald (nx k : Nat) (L st : List AV) (σ : SG) : Option SM := match st with
  | .inl (.inl i) :: .inr (.inl r) :: st => ax_gd (ax_in σ k r i) nx L (aI (sgI σ k i.toNatClampNeg r) :: st) σ
  | _ => none
def ax_aldJ (nx k : Nat) (L st : List AV) (σ : SG) : Option SM := match st with
  | .inl (.inl i) :: .inr (.inl r) :: st => ax_gd (ax_in σ k r i) nx L (aJ (sgJ σ k i.toNatClampNeg r) :: st) σ
  | _ => none
def ax_aldR (nx k : Nat) (L st : List AV) (σ : SG) : Option SM := match st with
  | .inl (.inl i) :: .inr (.inl r) :: st => ax_gd (ax_in σ k r i) nx L (aR (sgR σ k i.toNatClampNeg r) :: st) σ
  | _ => none
def ax_ast (nx : Nat) (L st : List AV) (σ : SG) : Option SM := match st with
  | .inl (.inl x) :: .inl (.inl i) :: .inr (.inl r) :: st => ax_gd (ax_in σ 20 r i) nx L st (putI σ 20 i.toNatClampNeg r x)
  | _ => none
def ax_astZ (nx : Nat) (L st : List AV) (σ : SG) : Option SM := match st with
  | .inl (.inl x) :: .inl (.inl i) :: .inr (.inl r) :: st => ax_gd ((x = 0 ∨ x = 1) ∧ ax_in σ 21 r i) nx L st (putI σ 21 i.toNatClampNeg r x)
  | _ => none
def ax_astJ (nx : Nat) (L st : List AV) (σ : SG) : Option SM := match st with
  | .inl (.inr x) :: .inl (.inl i) :: .inr (.inl r) :: st => ax_gd (ax_in σ 22 r i) nx L st (putJ σ 22 i.toNatClampNeg r x)
  | _ => none
/-- what may lie in a row of references: any object of the claim in an Object[], a Job in a Job[] -/
def ax_fitR (σ : SG) (k v : Nat) : Prop := v = 0 ∨ (k = 23 ∧ (sgK σ v).1 < 9) ∨ (sgK σ v).1 = 2
def ax_astR (nx k : Nat) (L st : List AV) (σ : SG) : Option SM := match st with
  | .inr (.inl x) :: .inl (.inl i) :: .inr (.inl r) :: st => ax_gd (ax_fitR σ k x ∧ ax_in σ k r i) nx L st (putR σ k i.toNatClampNeg r x)
  | _ => none
def ax_alen (nx : Nat) (L st : List AV) (σ : SG) : Option SM := match st with
  | .inr (.inl r) :: st => ax_gd (20 ≤ (sgK σ r).1 ∧ (sgK σ r).1 < 26) nx L (aI (Int32.ofNat (sgK σ r).2) :: st) σ
  | _ => none
def ax_mka (nx k : Nat) (L st : List AV) (σ : SG) : Option SM := match st with
  | .inl (.inl n) :: st => ax_gd (¬ n < 0 ∧ n.toNatClampNeg ≤ 50000000) nx L (aR (sgZ σ) :: st) (mkC σ k n.toNatClampNeg)
  | _ => none
def ax_cast (nx k : Nat) (L st : List AV) (σ : SG) : Option SM := match st with
  | .inr (.inl r) :: st => ax_gd (r = 0 ∨ (sgK σ r).1 = k) nx L (aR r :: st) σ
  | _ => none
def ax_cat (v : AV) : Nat := match v with
  | .inl (.inr _) => 2
  | _ => 1
def ax_wt (st : List AV) : Nat := st.foldr (fun v n => ax_cat v + n) 0
def ax_entry (y : Nat) (as : List AV) : List AV := as ++ List.replicate (ax_L y - as.length) aU
/-- a call: y its method, n its arguments, c the kind of its receiver (99: none asked) -/
def ax_call (nx y n opk : Nat) (L st : List AV) (σ : SG) : Option SM :=
  bif Nat.ble (n + (bif Nat.beq opk 1 then 0 else 1)) st.length && Nat.ble (ax_wt (st.drop (n + (bif Nat.beq opk 1 then 0 else 1)))) 8 && Nat.ble (n + (bif Nat.beq opk 1 then 0 else 1)) (ax_L y) && (st.take n).all (fun v => Nat.beq (ax_cat v) 1) then
    (match opk with
    | 1 => some (.inl (.inr (.inl (y, (st.take n).reverse, (nx, L, st.drop n), σ))))
    | _ => match st.drop n with
      | .inr (.inl r) :: rest => some (.inr (.inl ((bif Nat.beq opk 0 then (sgK σ r).1 = ax_ck y else 0 < r), .inr (.inl (y, aR r :: (st.take n).reverse, (nx, L, rest), σ)))))
      | _ => none)
  else none
def ax_copy (nx : Nat) (L st : List AV) (σ : SG) : Option SM := match st with
  | .inl (.inl n) :: .inl (.inl dp) :: .inr (.inl dst) :: .inl (.inl sp) :: .inr (.inl src) :: st =>
    ax_gd (ax_wt st ≤ 8 ∧ (sgK σ src).1 = 23 ∧ (sgK σ dst).1 = 23 ∧ ¬ sp < 0 ∧ ¬ dp < 0 ∧ ¬ n < 0 ∧ sp.toNatClampNeg + n.toNatClampNeg ≤ (sgK σ src).2 ∧ dp.toNatClampNeg + n.toNatClampNeg ≤ (sgK σ dst).2 ∧ 0 < (sgK σ src).2 ∧ 0 < (sgK σ dst).2 ∧ (∀ i, i < n.toNatClampNeg → ax_fitR σ 23 (sgR σ 23 (sp.toNatClampNeg + i) src)))
      nx L st (cpyC σ src sp.toNatClampNeg dst dp.toNatClampNeg n.toNatClampNeg)
  | _ => none
def ax_mm (g : Int32 → Int32 → Int32) (nx : Nat) (L st : List AV) (σ : SG) : Option SM := match st with
  | .inl (.inl y) :: .inl (.inl x) :: st => ax_gd (ax_wt st ≤ 8) nx L (aI (g x y) :: st) σ
  | _ => none
def ax_sem (e0 mo : Nat) (en : ax_En) (L st : List AV) (σ : SG) : Option SM := match en with
  | (i, nx, a, b, f, v) => match i with
    | .aconst_null => ax_go nx L (aR 0 :: st) σ
    | .iconst _ => ax_go nx L (aI v :: st) σ
    | .bipush _ => ax_go nx L (aI v :: st) σ
    | .sipush _ => ax_go nx L (aI v :: st) σ
    | .lconst n => ax_go nx L (aJ (Int64.ofNat (n : Nat)) :: st) σ
    | .ldc _ => bif Nat.beq f 1 then ax_go nx L (aR mo :: st) σ else ax_go nx L (aI v :: st) σ
    | .ldc_w _ => bif Nat.beq f 1 then none else ax_go nx L (aI v :: st) σ
    | .iload_n _ => ax_ld nx a L st σ
    | .iload _ => ax_ld nx a L st σ
    | .aload_n _ => ax_lda nx a L st σ
    | .aload _ => ax_lda nx a L st σ
    | .istore_n _ => ax_sto nx a L st σ
    | .istore _ => ax_sto nx a L st σ
    | .astore_n _ => ax_stoa nx a L st σ
    | .astore _ => ax_stoa nx a L st σ
    | .iinc _ _ => ax_inc nx a v L st σ
    | .iadd => ax_bin (fun x y => x + y) nx L st σ
    | .isub => ax_bin (fun x y => x - y) nx L st σ
    | .imul => ax_bin (fun x y => x * y) nx L st σ
    | .iand => ax_bin (fun x y => x &&& y) nx L st σ
    | .ior => ax_bin (fun x y => x ||| y) nx L st σ
    | .ishl => ax_bin (fun x y => x <<< (y &&& 31)) nx L st σ
    | .ishr => ax_bin (fun x y => x >>> (y &&& 31)) nx L st σ
    | .iushr => ax_bin (fun x y => (x.toUInt32 >>> (y.toUInt32 &&& Int32.toUInt32 31)).toInt32) nx L st σ
    | .idiv => ax_dv (fun x y => x / y) nx L st σ
    | .irem => ax_dv (fun x y => x - x / y * y) nx L st σ
    | .i2l => match st with
      | .inl (.inl x) :: st => ax_go nx L (aJ x.toInt64 :: st) σ
      | _ => none
    | .land => ax_binJ (fun x y => x &&& y) nx L st σ
    | .lor => ax_binJ (fun x y => x ||| y) nx L st σ
    | .lshl => ax_shJ (fun x y => x <<< (y.toInt64 &&& 63)) nx L st σ
    | .lushr => ax_shJ (fun x y => (x.toUInt64 >>> (y.toInt64.toUInt64 &&& Int64.toUInt64 63)).toInt64) nx L st σ
    | .lcmp => match st with
      | .inl (.inr y) :: .inl (.inr x) :: st => ax_go nx L (aI (lg_cmp x y) :: st) σ
      | _ => none
    | .dup => match st with
      | v :: st => bif Nat.beq (ax_cat v) 1 then ax_go nx L (v :: v :: st) σ else none
      | _ => none
    | .dup2 => match st with
      | v :: w :: st => bif Nat.beq (ax_cat v) 1 && Nat.beq (ax_cat w) 1 then ax_go nx L (v :: w :: v :: w :: st) σ else none
      | _ => none
    | .dup_x1 => match st with
      | v :: w :: st => bif Nat.beq (ax_cat v) 1 && Nat.beq (ax_cat w) 1 then ax_go nx L (v :: w :: v :: st) σ else none
      | _ => none
    | .pop => match st with
      | v :: st => bif Nat.beq (ax_cat v) 1 then ax_go nx L st σ else none
      | _ => none
    | .goto _ => ax_go a L st σ
    | .ifCond .eq _ => ax_if (fun x => x = 0) a nx L st σ
    | .ifCond .ne _ => ax_if (fun x => x = 0) nx a L st σ
    | .ifCond .lt _ => ax_if (fun x => x < 0) a nx L st σ
    | .ifCond .ge _ => ax_if (fun x => x < 0) nx a L st σ
    | .ifCond .gt _ => ax_if (fun x => 0 < x) a nx L st σ
    | .ifCond .le _ => ax_if (fun x => 0 < x) nx a L st σ
    | .if_icmp .eq _ => ax_if2 (fun x y => x = y) a nx L st σ
    | .if_icmp .ne _ => ax_if2 (fun x y => x = y) nx a L st σ
    | .if_icmp .lt _ => ax_if2 (fun x y => x < y) a nx L st σ
    | .if_icmp .ge _ => ax_if2 (fun x y => x < y) nx a L st σ
    | .if_icmp .gt _ => ax_if2 (fun x y => y < x) a nx L st σ
    | .if_icmp .le _ => ax_if2 (fun x y => y < x) nx a L st σ
    | .if_acmp .eq _ => ax_acmp a L st σ
    | .if_acmp .ne _ => ax_acmp nx L st σ
    | .ifnull _ => ax_nul a nx L st σ
    | .ifnonnull _ => ax_nul nx a L st σ
    | .getfield _ => ax_get nx a b f L st σ
    | .putfield _ => ax_put nx a b f L st σ
    | .getstatic _ => ax_go nx L (aR e0 :: st) σ
    | .iaload => ax_ald nx a L st σ
    | .baload => ax_ald nx 21 L st σ
    | .laload => ax_aldJ nx 22 L st σ
    | .aaload => ax_aldR nx a L st σ
    | .iastore => ax_ast nx L st σ
    | .bastore => ax_astZ nx L st σ
    | .lastore => ax_astJ nx L st σ
    | .aastore => ax_astR nx a L st σ
    | .arraylength => ax_alen nx L st σ
    | .new _ => bif Nat.beq f 1 then (match st with
        | [] => some (.inl (.inr (.inr (.inr (a, thrC σ)))))
        | _ => none) else ax_go nx L (aR (sgZ σ) :: st) (mkC σ a b)
    | .newarray _ => ax_mka nx a L st σ
    | .anewarray _ => ax_mka nx a L st σ
    | .checkcast _ => ax_cast nx a L st σ
    | .tableswitch d lo hi os => match st with
      | .inl (.inl x) :: st => some (.inl (.inl ((((if x.toInt < lo ∨ hi < x.toInt then d else os.getD (x.toInt - lo).toNat 0) + (a : Int)).toNat, L, st), σ)))
      | _ => none
    | .invokevirtual _ => bif Nat.beq f 3 then (match st with
        | .inr (.inl r) :: st => ax_gd (ax_wt st ≤ 8 ∧ (sgK σ r).1 = 23 ∧ 0 < (sgK σ r).2) nx L (aR mo :: st) σ
        | _ => none) else ax_call nx a b 0 L st σ
    | .invokespecial _ => bif Nat.beq f 1 then (match st with
        | .inr (.inl r) :: st => ax_gd (ax_wt st ≤ 8 ∧ 0 < r) nx L st σ
        | _ => none) else ax_call nx a b 2 L st σ
    | .invokestatic _ => bif Nat.beq f 2 then ax_copy nx L st σ else bif Nat.beq f 4 then ax_mm (fun x y => if x < y then y else x) nx L st σ else bif Nat.beq f 5 then ax_mm (fun x y => if y < x then y else x) nx L st σ else ax_call nx a b 1 L st σ
    | .return_ => match st with
      | [] => some (.inl (.inr (.inr (.inl (aU, σ)))))
      | _ => none
    | .ireturn => match st with
      | [.inl (.inl x)] => bif Nat.beq f 1 then some (.inr (.inl ((x = 0 ∨ x = 1), .inr (.inr (.inl (aI x, σ)))))) else some (.inl (.inr (.inr (.inl (aI x, σ)))))
      | _ => none
    | .areturn => match st with
      | [.inr (.inl r)] => some (.inl (.inr (.inr (.inl (aR r, σ)))))
      | _ => none
    | _ => none
noncomputable def ax_pick (m : SM) : Option SR := match m with
  | .inl s => some s
  | .inr (.inl (p, s)) => @ite _ p (Classical.propDecidable p) (some s) none
  | .inr (.inr (p, s, t)) => @ite _ p (Classical.propDecidable p) (some s) (some t)
def ax_push (v : AV) (st : List AV) : List AV := match v with
  | .inr (.inr _) => st
  | v => v :: st
noncomputable def ax_at (e0 mo y : Nat) (fr : FRM) (σ : SG) : Option SM := match ax_code y fr.1 with
  | none => none
  | some en => ax_sem e0 mo en fr.2.1 fr.2.2 σ
/-- n: fuel; d: how many frames may still come above -/
noncomputable def ax_ex (e0 mo : Nat) : Nat → Nat → Nat → FRM → SG → Option (Res × SG)
  | 0, _, _, _, _ => none
  | n + 1, d, y, fr, σ => match (ax_at e0 mo y fr σ).bind ax_pick with
    | none => none
    | some (.inl (fr', σ')) => ax_ex e0 mo n d y fr' σ'
    | some (.inr (.inl (y', as, fr', σ'))) => match d with
      | 0 => none
      | d' + 1 => match ax_ex e0 mo n d' y' (0, ax_entry y' as, []) σ' with
        | none => none
        | some (.inl v, σ2) => ax_ex e0 mo n (d' + 1) y (fr'.1, fr'.2.1, ax_push v fr'.2.2) σ2
        | some (.inr E, σ2) => match ax_h y fr.1 E with
          | none => some (.inr E, σ2)
          | some w => some (.inl (aI w), σ2)
    | some (.inr (.inr (.inl (v, σ')))) => some (.inl v, σ')
    | some (.inr (.inr (.inr (E, σ')))) => bif Nat.ble 6 d then some (.inr E, σ') else none
end AXM
