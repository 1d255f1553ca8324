/-! Bits; what begins and what is next. -/
section AXMJ
def mBit (n t : Nat) : Bool := Nat.beq (n / 2 ^ t % 2) 1
theorem sh_31 : ∀ t, t < 32 → (((nI t &&& 31) : Int32).toBitVec.smod 32).toNat = t := by decide +kernel
theorem bit_nI {n t : Nat} (hn : n < 2 ^ 31) (ht : t < 32) : (nI n >>> (nI t &&& 31)) &&& 1 = nI (n / 2 ^ t % 2) := by
  rw [pk_shrN hn _ t (sh_31 t ht), show (1 : Int32) = nI 1 from rfl, ax_andI, Nat.and_one_is_mod]
theorem mBit_01 (n t : Nat) : n / 2 ^ t % 2 = if mBit n t then 1 else 0 := by
  unfold mBit
  cases q : Nat.beq (n / 2 ^ t % 2) 1 with
  | true => rw [ax_beq q]; rfl
  | false =>
    have h1 : n / 2 ^ t % 2 ≠ 1 := ax_bnq q
    rw [if_neg (by decide)]
    omega
theorem ax_bc_le (x : Nat) : ∀ n, ax_bc x n ≤ n := by
  intro n
  induction n with
  | zero => exact Nat.le_refl _
  | succ n ih => unfold ax_bc; omega
/-- a stage waits, and the first t stages that it needs are over -/
def mNxT (A : MS) (r k : Nat) : Nat → Bool
  | 0 => Nat.blt 0 (mCnt A r k 0)
  | t + 1 => mNxT A r k t && (!(mBit (mS A 4 k) t) || mOver A r t)
abbrev mNx (A : MS) (r k : Nat) : Bool := mNxT A r k (mU A 16 r)
/-- the first t stages that it needs ended well -/
def mGdT (A : MS) (r k : Nat) : Nat → Bool
  | 0 => true
  | t + 1 => mGdT A r k t && (!(mBit (mS A 4 k) t) || mWellN A r t)
abbrev mGd (A : MS) (r k : Nat) : Bool := mGdT A r k (mU A 16 r)
/-- the first t jobs of a stage begin, or are skipped -/
def mBeg (A : MS) (r k : Nat) (g : Bool) (t : Nat) : MS :=
  (fun f r' k' j' => if f = 40 ∧ r' = r ∧ k' = k ∧ j' < t ∧ A.1 40 r k j' = 0 then (if g then 1 else 6) else A.1 f r' k' j', if g then mQ A ++ ((List.range t).filter (fun j => Nat.beq (mJ A 0 r k j) 0)).map (pl r k) else mQ A, mE A)
theorem mBeg_0 (A : MS) (r k : Nat) (g : Bool) : mBeg A r k g 0 = A := by
  obtain ⟨A1, q, e⟩ := A
  unfold mBeg
  refine Prod.ext ?_ (Prod.ext ?_ rfl)
  · funext f r' k' j'
    exact if_neg fun z => Nat.not_lt_zero _ z.2.2.2.1
  · cases g
    · rfl
    · show q ++ [] = q
      exact List.append_nil q
theorem mBeg_f (A : MS) {r k : Nat} {g : Bool} {t f : Nat} (h : f ≠ 40) (r' k' j' : Nat) : (mBeg A r k g t).1 f r' k' j' = A.1 f r' k' j' := if_neg fun z => h z.1
theorem mBeg_ge (A : MS) {r k : Nat} {g : Bool} {t f r' k' j' : Nat} (h : ¬ (r' = r ∧ k' = k ∧ j' < t)) : (mBeg A r k g t).1 f r' k' j' = A.1 f r' k' j' := if_neg fun z => h ⟨z.2.1, z.2.2.1, z.2.2.2.1⟩
theorem range_succ_filter (p : Nat → Bool) (t : Nat) : (List.range (t + 1)).filter p = (List.range t).filter p ++ (if p t then [t] else []) := by
  rw [List.range_succ, List.filter_append]
  congr 1
  cases q : p t with
  | true => simp [q]
  | false => simp [q]
theorem mBeg_no (A : MS) {r k : Nat} {g : Bool} {t : Nat} (h : mJ A 0 r k t ≠ 0) : mBeg A r k g (t + 1) = mBeg A r k g t := by
  unfold mBeg
  refine Prod.ext ?_ (Prod.ext ?_ rfl)
  · funext f r' k' j'
    show (if _ then _ else _) = (if _ then _ else _)
    by_cases z : f = 40 ∧ r' = r ∧ k' = k ∧ j' < t ∧ A.1 40 r k j' = 0
    · rw [if_pos z, if_pos ⟨z.1, z.2.1, z.2.2.1, Nat.lt_succ_of_lt z.2.2.2.1, z.2.2.2.2⟩]
    · rw [if_neg z, if_neg]
      rintro ⟨z1, z2, z3, z4, z5⟩
      refine z ⟨z1, z2, z3, ?_, z5⟩
      rcases Nat.lt_succ_iff_lt_or_eq.mp z4 with w | w
      · exact w
      · exact absurd (by rw [w] at z5; exact z5) h
  · show (if g then _ else _) = (if g then _ else _)
    rw [range_succ_filter, if_neg (show ¬ Nat.beq (mJ A 0 r k t) 0 = true from fun w => h (ax_beq w)), List.append_nil]
theorem mBeg_yes (A : MS) {r k t : Nat} (h : mJ A 0 r k t = 0) : mBeg A r k true (t + 1) = ((mUp (mBeg A r k true t) 40 r k t 1).1, mQ (mBeg A r k true t) ++ [pl r k t], mE A) := by
  refine Prod.ext ?_ (Prod.ext ?_ rfl)
  · funext f r' k' j'
    show (if f = 40 ∧ r' = r ∧ k' = k ∧ j' < t + 1 ∧ A.1 40 r k j' = 0 then 1 else A.1 f r' k' j') = (if f = 40 ∧ r' = r ∧ k' = k ∧ j' = t then 1 else if f = 40 ∧ r' = r ∧ k' = k ∧ j' < t ∧ A.1 40 r k j' = 0 then 1 else A.1 f r' k' j')
    by_cases z : f = 40 ∧ r' = r ∧ k' = k ∧ j' = t
    · obtain ⟨rfl, rfl, rfl, rfl⟩ := z
      rw [if_pos ⟨rfl, rfl, rfl, Nat.lt_succ_self _, h⟩, if_pos ⟨rfl, rfl, rfl, rfl⟩]
    · rw [if_neg z]
      by_cases w : f = 40 ∧ r' = r ∧ k' = k ∧ j' < t ∧ A.1 40 r k j' = 0
      · rw [if_pos w, if_pos ⟨w.1, w.2.1, w.2.2.1, Nat.lt_succ_of_lt w.2.2.2.1, w.2.2.2.2⟩]
      · rw [if_neg w, if_neg]
        rintro ⟨z1, z2, z3, z4, z5⟩
        rcases Nat.lt_succ_iff_lt_or_eq.mp z4 with q | q
        · exact w ⟨z1, z2, z3, q, z5⟩
        · exact z ⟨z1, z2, z3, q⟩
  · show mQ A ++ _ = (mQ A ++ _) ++ [pl r k t]
    rw [range_succ_filter, if_pos (show Nat.beq (mJ A 0 r k t) 0 = true by rw [h]; rfl), List.map_append, List.append_assoc]
    rfl
theorem mBeg_skip (A : MS) {r k t : Nat} (h : mJ A 0 r k t = 0) : mBeg A r k false (t + 1) = mUp (mBeg A r k false t) 40 r k t 6 := by
  refine Prod.ext ?_ rfl
  funext f r' k' j'
  show (if f = 40 ∧ r' = r ∧ k' = k ∧ j' < t + 1 ∧ A.1 40 r k j' = 0 then 6 else A.1 f r' k' j') = (if f = 40 ∧ r' = r ∧ k' = k ∧ j' = t then 6 else if f = 40 ∧ r' = r ∧ k' = k ∧ j' < t ∧ A.1 40 r k j' = 0 then 6 else A.1 f r' k' j')
  by_cases z : f = 40 ∧ r' = r ∧ k' = k ∧ j' = t
  · obtain ⟨rfl, rfl, rfl, rfl⟩ := z
    rw [if_pos ⟨rfl, rfl, rfl, Nat.lt_succ_self _, h⟩, if_pos ⟨rfl, rfl, rfl, rfl⟩]
  · rw [if_neg z]
    by_cases w : f = 40 ∧ r' = r ∧ k' = k ∧ j' < t ∧ A.1 40 r k j' = 0
    · rw [if_pos w, if_pos ⟨w.1, w.2.1, w.2.2.1, Nat.lt_succ_of_lt w.2.2.2.1, w.2.2.2.2⟩]
    · rw [if_neg w, if_neg]
      rintro ⟨z1, z2, z3, z4, z5⟩
      rcases Nat.lt_succ_iff_lt_or_eq.mp z4 with q | q
      · exact w ⟨z1, z2, z3, q, z5⟩
      · exact z ⟨z1, z2, z3, q⟩
section
variable {e0 mo : Nat} {σ : SG} {m : Nat} {M : Nat → Nat} {A : MS} {r k j : Nat}
end
end AXMJ
