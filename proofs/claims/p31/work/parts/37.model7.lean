/-! What each call answers, and the reference's calls that only read. -/
section AXMK
/-- code (0: it answers; else which exception), answer, state -/
abbrev OC : Type := (Nat × Int32) × MS
def inB (x : Int32) (n : Nat) : Bool := decide ((0 : Int32) ≤ x ∧ x ≤ nI n - 1)
theorem bI0 {b : Bool} (h : bI b = 0) : b = false := by
  cases b with
  | false => rfl
  | true => exact absurd h (by decide)
theorem bI1 {b : Bool} (h : ¬ bI b = 0) : b = true := by
  cases b with
  | true => rfl
  | false => exact absurd rfl h
theorem inB_yes {x : Int32} {n : Nat} (h : inB x n = true) (hn : n < 2 ^ 31) : ∃ i, i < n ∧ x = nI i := by
  have h1 : (0 : Int32) ≤ x ∧ x ≤ nI n - 1 := of_decide_eq_true h
  rcases pk_ix x hn with q | q | q
  · exact absurd q (Int32.not_lt.mpr h1.1)
  · rcases Nat.eq_zero_or_pos n with z | z
    · subst z
      have h2 : (0 : Int32) ≤ nI 0 - 1 := Int32.le_trans h1.1 h1.2
      exact absurd h2 (by decide)
    · have h2 : nI n ≤ nI n - 1 := Int32.le_trans q h1.2
      rw [show nI n - 1 = nI (n - 1) from pk_sub (a := n) (b := 1) z] at h2
      exact absurd h2 (nI_ge (by omega) hn)
  · exact q
theorem inB_nI {n i : Nat} (hi : i < n) (hn : n < 2 ^ 31) : inB (nI i) n = true := in_nI hi hn
theorem inB_no {x : Int32} {n : Nat} (h : inB x n = false) (hn : n < 2 ^ 31) : x < 0 ∨ nI n ≤ x := by
  rcases pk_ix x hn with q | q | ⟨i, hi, rfl⟩
  · exact Or.inl q
  · exact Or.inr q
  · rw [inB_nI hi hn] at h; cases h
section
variable {e0 mo : Nat} {σ : SG} {m : Nat} {M : Nat → Nat} {A : MS} {r k j : Nat}
def oState (A : MS) (x : Int32) : OC := bif inB x (mR A) then ((0, nI (mU A 11 x.toNatClampNeg)), A) else ((1, 0), A)
/-- a job that there is -/
def jobB (A : MS) (x y z : Int32) : Bool := inB x (mR A) && inB y 8 && inB z 16 && !(Nat.beq (mJ A 0 x.toNatClampNeg y.toNatClampNeg z.toNatClampNeg) 8)
theorem jobB_yes {x y z : Int32} (h : jobB A x y z = true) (hI : mB A) : ∃ r k j, x = nI r ∧ y = nI k ∧ z = nI j ∧ r < mR A ∧ k < 8 ∧ j < 16 ∧ mJ A 0 r k j ≠ 8 ∧ x.toNatClampNeg = r ∧ y.toNatClampNeg = k ∧ z.toNatClampNeg = j := by
  have hR := hI.1.2
  unfold jobB at h
  simp only [Bool.and_eq_true] at h
  obtain ⟨⟨⟨h1, h2⟩, h3⟩, h4⟩ := h
  obtain ⟨r, hr, rfl⟩ := inB_yes h1 (by omega)
  obtain ⟨k, hk, rfl⟩ := inB_yes h2 (by decide)
  obtain ⟨j, hj, rfl⟩ := inB_yes h3 (by decide)
  have c1 : (nI r).toNatClampNeg = r := nI_clamp (by omega)
  have c2 : (nI k).toNatClampNeg = k := nI_clamp (by omega)
  have c3 : (nI j).toNatClampNeg = j := nI_clamp (by omega)
  rw [c1, c2, c3] at h4
  refine ⟨r, k, j, rfl, rfl, rfl, hr, hk, hj, fun z => ?_, c1, c2, c3⟩
  rw [z] at h4
  cases h4
/-- a state as the document has it -/
abbrev mSt (s : Nat) : Nat := if s = 7 then 5 else s
def oJobState (A : MS) (x y z : Int32) : OC := bif jobB A x y z then ((0, nI (mSt (mJ A 0 x.toNatClampNeg y.toNatClampNeg z.toNatClampNeg))), A) else ((1, 0), A)
def oAttempts (A : MS) (x y z : Int32) : OC := bif jobB A x y z then ((0, nI (mJ A 1 x.toNatClampNeg y.toNatClampNeg z.toNatClampNeg)), A) else ((1, 0), A)
def oRestored (A : MS) (x y z : Int32) : OC := bif jobB A x y z then ((0, nI (mJ A 3 x.toNatClampNeg y.toNatClampNeg z.toNatClampNeg) - 1), A) else ((1, 0), A)
theorem mC_parts (hI : mB A) (hT : mT A) (hr : r < mR A) : mC A r k j / 512 = mJ A 1 r k j ∧ mC A r k j / 16 % 8 = mJ A 3 r k j ∧ mC A r k j / 128 % 4 = mJ A 2 r k j := by
  have h1 := (hI.2.2.2.2.2 r k j hr)
  unfold mC
  omega
/-- a stage of a run -/
def stgB (A : MS) (x y : Int32) : Bool := inB x (mR A) && inB y (mU A 16 x.toNatClampNeg)
theorem stgB_yes {x y : Int32} (h : stgB A x y = true) (hI : mB A) : ∃ r k, x = nI r ∧ y = nI k ∧ r < mR A ∧ k < mU A 16 r ∧ k < 8 ∧ x.toNatClampNeg = r ∧ y.toNatClampNeg = k := by
  have hR := hI.1.2
  unfold stgB at h
  rw [Bool.and_eq_true] at h
  obtain ⟨h1, h2⟩ := h
  obtain ⟨r, hr, rfl⟩ := inB_yes h1 (by omega)
  have c1 : (nI r).toNatClampNeg = r := nI_clamp (by omega)
  rw [c1] at h2
  have h16 := (hI.2.2.2.2.1 r hr).2.2.2.2.2.2
  have hN := hI.1.1
  obtain ⟨k, hk, rfl⟩ := inB_yes h2 (by omega)
  exact ⟨r, k, rfl, rfl, hr, hk, by omega, c1, nI_clamp (by omega)⟩
end
end AXMK
