/-! The reference: a run's end, its stages' beginnings, what follows. -/
section AXMP
theorem mWellN_cong {A A' : MS} {r k : Nat} (h : ∀ j, mJ A' 0 r k j = mJ A 0 r k j) (h8 : mS A' 8 k = mS A 8 k) : mWellN A' r k = mWellN A r k := by
  unfold mWellN
  congr 1
  funext j
  rw [h, h8]
section
variable {e0 mo : Nat} {σ σ1 : SG} {m : Nat} {M : Nat → Nat} {A : MS} {r k j : Nat}
/-- a run ends -/
abbrev mEnd (A : MS) (r s : Nat) : MS := mUp A 11 r 0 0 s
theorem mB_end (h : mB A) {s : Nat} (hs : s = 7 ∨ s = 8 ∨ s = 9 ∨ s = 10 ∨ s = 5) (x : Nat) : mB (mUp (mEnd A r s) 60 0 0 0 x) := by
  refine mB_cong (fun f r' k' j' a b => (mUp_f _ (by omega) r' k' j').trans (mUp_f A b r' k' j')) (fun r' hr' => ?_) (fun r' k' j' hr' => h.2.2.2.2.2 r' k' j' hr') h
  rw [show mU (mUp (mEnd A r s) 60 0 0 0 x) 11 r' = mU (mEnd A r s) 11 r' from mUp_f _ (by decide) r' 0 0]
  by_cases q : r' = r
  · rw [q, show mU (mEnd A r s) 11 r = s from mUp_at A 11 r 0 0 s]; exact hs
  · rw [show mU (mEnd A r s) 11 r' = mU A 11 r' from mUp_ne A (fun z => q z.1)]
    exact (h.2.2.2.2.1 r' hr').1
theorem one_shl : ∀ t, t < 8 → (1 : Int32) <<< (nI t &&& 31) = nI (2 ^ t) := by decide +kernel
theorem or_top {x t : Nat} (hx : x < 2 ^ t) : x ||| 2 ^ t = x + 2 ^ t := by
  have h := Nat.two_pow_add_eq_or_of_lt hx 1
  rw [Nat.mul_one] at h
  rw [Nat.or_comm, ← h, Nat.add_comm]
theorem mBeg_len (A : MS) (r k : Nat) (g : Bool) (t : Nat) : (mQ (mBeg A r k g t)).length ≤ (mQ A).length + t := by
  show (if g then mQ A ++ ((List.range t).filter (fun j => Nat.beq (mJ A 0 r k j) 0)).map (pl r k) else mQ A).length ≤ _
  cases g with
  | false => exact Nat.le_add_right _ _
  | true =>
    rw [if_pos rfl, List.length_append, List.length_map]
    have h1 := List.length_filter_le (fun j => Nat.beq (mJ A 0 r k j) 0) (List.range t)
    rw [List.length_range] at h1
    omega
end
end AXMP
