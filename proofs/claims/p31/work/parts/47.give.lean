/-! The reference's take, finish and lose. -/
section AXMU
section
variable {e0 mo : Nat} {σ : SG} {m : Nat} {M : Nat → Nat} {A : MS} {r k j p w : Nat}
theorem mC_up1 (A : MS) (r k j : Nat) : mC (mUp A 41 r k j (mJ A 1 r k j + 1)) r k j = mC A r k j + 512 := by
  unfold mC
  rw [show mJ (mUp A 41 r k j (mJ A 1 r k j + 1)) 1 r k j = mJ A 1 r k j + 1 from mUp_at A 41 r k j _, show mJ (mUp A 41 r k j (mJ A 1 r k j + 1)) 0 r k j = mJ A 0 r k j from mUp_f A (by decide) r k j, show mJ (mUp A 41 r k j (mJ A 1 r k j + 1)) 2 r k j = mJ A 2 r k j from mUp_f A (by decide) r k j, show mJ (mUp A 41 r k j (mJ A 1 r k j + 1)) 3 r k j = mJ A 3 r k j from mUp_f A (by decide) r k j]
  omega
theorem mC_up2 (A : MS) (r k j : Nat) : mC (mUp A 42 r k j (mJ A 2 r k j + 1)) r k j = mC A r k j + 128 := by
  unfold mC
  rw [show mJ (mUp A 42 r k j (mJ A 2 r k j + 1)) 2 r k j = mJ A 2 r k j + 1 from mUp_at A 42 r k j _, show mJ (mUp A 42 r k j (mJ A 2 r k j + 1)) 0 r k j = mJ A 0 r k j from mUp_f A (by decide) r k j, show mJ (mUp A 42 r k j (mJ A 2 r k j + 1)) 1 r k j = mJ A 1 r k j from mUp_f A (by decide) r k j, show mJ (mUp A 42 r k j (mJ A 2 r k j + 1)) 3 r k j = mJ A 3 r k j from mUp_f A (by decide) r k j]
  omega
theorem mB_w (hI : mB A) (q : List Nat) (es : List (Nat × Nat)) (w v : Nat) : mB (mUp (A.1, q, es) 50 w 0 0 v) := mB_cong (fun f r' k' j' a b => mUp_f _ (by omega) r' k' j') (fun r' hr' => (hI.2.2.2.2.1 r' hr').1) (fun r' k' j' hr' => hI.2.2.2.2.2 r' k' j' hr') hI
def hasW (A : MS) (x : Int32) : Bool := inB x 4 && !(Nat.beq (mW A x.toNatClampNeg) 0)
end
end AXMU
