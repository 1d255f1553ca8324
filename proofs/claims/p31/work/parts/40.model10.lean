/-! The reference looks for entries and makes them. -/
section AXMN
/-- how near the entry t is -/
def mNe (A : MS) (r k l t : Nat) : Nat := bif Nat.beq ((mE A).getD t (0, 0)).1 k then mCom ((mE A).getD t (0, 0)).2 (mKey A r l) l l else 0
/-- of the first t entries the nearest, its place and one more, and how near -/
def mFnd (A : MS) (r k l : Nat) : Nat → Nat × Nat
  | 0 => (0, 1)
  | t + 1 => bif Nat.ble (mFnd A r k l t).2 (mNe A r k l t) then (t + 1, mNe A r k l t) else mFnd A r k l t
abbrev mFn (A : MS) (r k : Nat) : Nat × Nat := mFnd A r k (mS A 6 k) (mE A).length
theorem mFnd_ok (A : MS) (r k l : Nat) : ∀ t, (mFnd A r k l t).1 ≤ t ∧ 1 ≤ (mFnd A r k l t).2 ∧ (mFnd A r k l t).2 ≤ max l 1 := by
  intro t
  induction t with
  | zero => exact ⟨Nat.le_refl _, Nat.le_refl _, Nat.le_max_right _ _⟩
  | succ t ih =>
    obtain ⟨h1, h2, h3⟩ := ih
    have e : mFnd A r k l (t + 1) = bif Nat.ble (mFnd A r k l t).2 (mNe A r k l t) then (t + 1, mNe A r k l t) else mFnd A r k l t := rfl
    rw [e]
    cases q : Nat.ble (mFnd A r k l t).2 (mNe A r k l t) with
    | false => exact ⟨Nat.le_succ_of_le h1, h2, h3⟩
    | true =>
      have q1 := Nat.le_of_ble_eq_true q
      refine ⟨Nat.le_refl _, Nat.le_trans h2 q1, ?_⟩
      show mNe A r k l t ≤ _
      unfold mNe
      cases Nat.beq ((mE A).getD t (0, 0)).1 k
      · exact Nat.zero_le _
      · exact Nat.le_trans (mCom_le _ _ _ _) (Nat.le_max_left _ _)
/-- a job is taken: what it restores, which entry is used -/
def mRes (A : MS) (r k j : Nat) : MS := bif Nat.beq (mS A 6 k) 0 then A else ((mUp A 43 r k j ((bif Nat.beq (mFn A r k).1 0 then 0 else (mFn A r k).2) + 1)).1, mQ A, bif Nat.beq (mFn A r k).1 0 then mE A else mRot (mE A) ((mFn A r k).1 - 1))
def mHas (A : MS) (e : Nat × Nat) : Bool := (mE A).any fun x => Nat.beq x.1 e.1 && Nat.beq x.2 e.2
/-- a job has passed: the entry that is made -/
def mSto (A : MS) (r k : Nat) : MS := bif Nat.beq (mS A 6 k) 0 then A else bif mHas A (k, mKey A r (mS A 6 k)) then A else (A.1, mQ A, bif Nat.blt 10 ((mE A).length + 1) then (mE A ++ [(k, mKey A r (mS A 6 k))]).eraseIdx 0 else mE A ++ [(k, mKey A r (mS A 6 k))])
theorem i32_upd {a b c d s : Nat} (h : a + s * b = d + s * c) : nI a + nI s * (nI b - nI c) = nI d := by
  have e : ∀ n : Nat, nI n = Int32.ofInt n := fun n => Int32.ofInt_eq_ofNat.symm
  rw [e, e, e, e, e, ← Int32.ofInt_sub, ← Int32.ofInt_mul, ← Int32.ofInt_add]
  congr 1
  have h1 : (a : Int) + s * b = d + s * c := by exact_mod_cast h
  rw [Int.mul_sub]
  omega
theorem pl_parts {r k j : Nat} (hk : k < 8) (hj : j < 16) : pl r k j / 128 = r ∧ pl r k j % 128 / 16 = k ∧ pl r k j % 16 = j := by
  show (128 * r + 16 * k + j) / 128 = r ∧ (128 * r + 16 * k + j) % 128 / 16 = k ∧ (128 * r + 16 * k + j) % 16 = j
  omega
section
variable {e0 mo : Nat} {σ : SG} {m : Nat} {M : Nat → Nat} {A : MS} {r k j : Nat}
theorem mC_r (hI : mB A) (hT : mT A) (hr : r < mR A) {v : Int32} {its : Nat} (hv : v = nI its) : nI (mC A r k j) + 16 * ((v + 1) - (nI (mC A r k j) / 16 - nI (mC A r k j) / 16 / 8 * 8)) = nI (mC (mUp A 43 r k j (its + 1)) r k j) := by
  obtain ⟨b1, b2⟩ := mC_lt (k := k) (j := j) hI hT hr
  obtain ⟨p1, p2, p3⟩ := mC_parts (k := k) (j := j) hI hT hr
  subst hv
  rw [nI_1, show (16 : Int32) = nI 16 from rfl, pk_div (by omega) (by decide) (by decide), show (8 : Int32) = nI 8 from rfl, pk_rem (by omega) (by decide) (by decide), p2]
  refine i32_upd ?_
  unfold mC
  rw [show mJ (mUp A 43 r k j (its + 1)) 3 r k j = its + 1 from mUp_at A 43 r k j _, show mJ (mUp A 43 r k j (its + 1)) 0 r k j = mJ A 0 r k j from mUp_f A (by decide) r k j, show mJ (mUp A 43 r k j (its + 1)) 1 r k j = mJ A 1 r k j from mUp_f A (by decide) r k j, show mJ (mUp A 43 r k j (its + 1)) 2 r k j = mJ A 2 r k j from mUp_f A (by decide) r k j]
  omega
theorem mHas_iff {e : Nat × Nat} : mHas A e = true ↔ ∃ i, i < (mE A).length ∧ (mE A).getD i (0, 0) = e := by
  unfold mHas
  rw [List.any_eq_true]
  constructor
  · rintro ⟨x, hx, h⟩
    obtain ⟨i, hi, rfl⟩ := List.mem_iff_getElem.mp hx
    rw [Bool.and_eq_true] at h
    refine ⟨i, hi, ?_⟩
    rw [List.getD_eq_getElem?_getD, List.getElem?_eq_getElem hi]
    exact Prod.ext (ax_beq h.1) (ax_beq h.2)
  · rintro ⟨i, hi, h⟩
    refine ⟨_, mE_at hi, ?_⟩
    rw [h, Nat.beq_refl, Nat.beq_refl]
    rfl
end
end AXMN
