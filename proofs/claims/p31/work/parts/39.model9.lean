/-! Longs as rows of bits (wb_: kit/laws, pasted); artifacts; what the reference does with cache entries. -/
section AXMM
theorem wb_tb (n : Nat) : (lN n).toBitVec = BitVec.ofNat 64 n := rfl
theorem wb_inj {a b : Int64} (h : a.toBitVec = b.toBitVec) : a = b := Int64.toBitVec_inj.mp h
theorem wb_tn {n : Nat} (h : n < 2 ^ 64) : (lN n).toBitVec.toNat = n := by rw [wb_tb, BitVec.toNat_ofNat, Nat.mod_eq_of_lt h]
theorem wb_of (x : Int64) : ∃ n, n < 2 ^ 64 ∧ x = lN n := ⟨x.toBitVec.toNat, x.toBitVec.isLt, wb_inj (by rw [wb_tb]; simp)⟩
theorem wb_c : ∀ k, k < 64 → ((nI k).toInt64 &&& 63) = lN k := by decide +kernel
theorem wb_cu : ∀ k, k < 64 → ((nI k).toInt64.toUInt64 &&& Int64.toUInt64 63) = UInt64.ofNat k := by decide +kernel
theorem wb_sm : ∀ k, k < 64 → (BitVec.ofNat 64 k).smod 64 = BitVec.ofNat 64 k := by decide +kernel
theorem wb_pw {a b : Nat} (h : a ≤ b) : 2 ^ b = 2 ^ a * 2 ^ (b - a) := by rw [← Nat.pow_add]; congr 1; omega
theorem wb_lt2 {a b : Nat} (h : a < b) : 2 ^ a < 2 ^ b := Nat.pow_lt_pow_right (by decide) h
theorem wb_mod (n : Nat) : lN n = lN (n % 2 ^ 64) := wb_inj (by rw [wb_tb, wb_tb]; apply BitVec.eq_of_toNat_eq; rw [BitVec.toNat_ofNat, BitVec.toNat_ofNat, Nat.mod_mod])
theorem wb_shr {n k : Nat} (hn : n < 2 ^ 64) (hk : k < 64) : ((lN n).toUInt64 >>> ((nI k).toInt64.toUInt64 &&& Int64.toUInt64 63)).toInt64 = lN (n / 2 ^ k) := by
  rw [wb_cu k hk]
  apply wb_inj
  apply BitVec.eq_of_toNat_eq
  show ((lN n).toUInt64 >>> UInt64.ofNat k).toNat = (BitVec.ofNat 64 _).toNat
  have h1 : (UInt64.ofNat k).toNat = k := by
    show (BitVec.ofNat 64 k).toNat = k
    rw [BitVec.toNat_ofNat, Nat.mod_eq_of_lt (by omega)]
  have h2 : (lN n).toUInt64.toNat = n := wb_tn hn
  rw [UInt64.toNat_shiftRight, h1, h2, Nat.mod_eq_of_lt hk, Nat.shiftRight_eq_div_pow, BitVec.toNat_ofNat, Nat.mod_eq_of_lt (Nat.lt_of_le_of_lt (Nat.div_le_self _ _) hn)]
theorem wb_shl (n : Nat) {k : Nat} (hk : k < 64) : lN n <<< ((nI k).toInt64 &&& 63) = lN (n * 2 ^ k) := by
  rw [wb_c k hk]
  apply wb_inj
  rw [Int64.toBitVec_shiftLeft, wb_tb, wb_tb, wb_tb, wb_sm k hk]
  apply BitVec.eq_of_toNat_eq
  rw [BitVec.shiftLeft_eq', BitVec.toNat_shiftLeft, BitVec.toNat_ofNat, BitVec.toNat_ofNat, BitVec.toNat_ofNat, Nat.mod_eq_of_lt (show k < 2 ^ 64 by omega), Nat.shiftLeft_eq, Nat.mul_mod, Nat.mod_mod, ← Nat.mul_mod]
theorem wb_and {a b : Nat} (ha : a < 2 ^ 64) (hb : b < 2 ^ 64) : lN a &&& lN b = lN (a &&& b) := by
  apply wb_inj
  rw [Int64.toBitVec_and, wb_tb, wb_tb, wb_tb]
  apply BitVec.eq_of_toNat_eq
  rw [BitVec.toNat_and, BitVec.toNat_ofNat, BitVec.toNat_ofNat, BitVec.toNat_ofNat, Nat.mod_eq_of_lt ha, Nat.mod_eq_of_lt hb, Nat.mod_eq_of_lt (Nat.and_lt_two_pow _ hb)]
theorem wb_or {a b : Nat} (ha : a < 2 ^ 64) (hb : b < 2 ^ 64) : lN a ||| lN b = lN (a ||| b) := by
  apply wb_inj
  rw [Int64.toBitVec_or, wb_tb, wb_tb, wb_tb]
  apply BitVec.eq_of_toNat_eq
  rw [BitVec.toNat_or, BitVec.toNat_ofNat, BitVec.toNat_ofNat, BitVec.toNat_ofNat, Nat.mod_eq_of_lt ha, Nat.mod_eq_of_lt hb, Nat.mod_eq_of_lt (Nat.or_lt_two_pow ha hb)]
theorem wb_mask {n k : Nat} (hn : n < 2 ^ 64) (hk : k < 64) : lN n &&& lN (2 ^ k - 1) = lN (n % 2 ^ k) := by
  rw [wb_and hn (by have := wb_lt2 hk; omega), Nat.and_two_pow_sub_one_eq_mod]
theorem wb_a1 {n : Nat} (hn : n < 2 ^ 64) : lN n &&& 1 = lN (n % 2) := wb_mask (k := 1) hn (by decide)
theorem wb_bit {n k : Nat} (hn : n < 2 ^ 64) (hk : k < 64) : ((lN n).toUInt64 >>> ((nI k).toInt64.toUInt64 &&& Int64.toUInt64 63)).toInt64 &&& 1 = lN (n / 2 ^ k % 2) := by
  rw [wb_shr hn hk, wb_a1 (Nat.lt_of_le_of_lt (Nat.div_le_self _ _) hn)]
/-- sums of what is needed -/
def mArt (A : MS) (r k : Nat) : Nat → Nat
  | 0 => 0
  | i + 1 => mArt A r k i + (bif mBit (mP A 4 r k) i then mCnt A r i 3 else 0)
theorem mArt_le (A : MS) (r k : Nat) : ∀ n, mArt A r k n ≤ 16 * n := by
  intro n
  induction n with
  | zero => exact Nat.le_refl _
  | succ n ih =>
    have h1 : mCnt A r n 3 ≤ 16 := ax_n_le _ 16
    show mArt A r k n + (bif mBit (mP A 4 r k) n then mCnt A r n 3 else 0) ≤ _
    cases mBit (mP A 4 r k) n
    · show mArt A r k n + 0 ≤ _
      omega
    · show mArt A r k n + mCnt A r n 3 ≤ _
      omega
theorem mNeeds_lt {A : MS} {r n : Nat} (h : ∀ k, k < n → mP A 4 r k < 256) : ∀ i, i ≤ n → mNeeds A r i < 2 ^ (8 * i) := by
  intro i
  induction i with
  | zero => intro _; exact Nat.one_pos
  | succ i ih =>
    intro hi
    have h1 := ih (by omega)
    have h2 := h i (by omega)
    show mNeeds A r i + 256 ^ i * mP A 4 r i < 2 ^ (8 * (i + 1))
    rw [show (256 : Nat) = 2 ^ 8 from rfl, ← Nat.pow_mul, show 8 * (i + 1) = 8 * i + 8 from rfl, Nat.pow_add]
    have h3 : 2 ^ (8 * i) * mP A 4 r i ≤ 2 ^ (8 * i) * 255 := Nat.mul_le_mul_left _ (by omega)
    omega
theorem mNeeds_bit {A : MS} {r n : Nat} (h : ∀ k, k < n → mP A 4 r k < 256) : ∀ i, i ≤ n → ∀ s t, s < i → t < 8 → mBit (mNeeds A r i) (8 * s + t) = mBit (mP A 4 r s) t := by
  intro i
  induction i with
  | zero => intro _ s t hs; exact absurd hs (Nat.not_lt_zero s)
  | succ i ih =>
    intro hi s t hs ht
    have h1 := mNeeds_lt h i (by omega)
    rw [mBit_test, mBit_test]
    show (mNeeds A r i + 256 ^ i * mP A 4 r i).testBit (8 * s + t) = _
    rw [show (256 : Nat) = 2 ^ 8 from rfl, ← Nat.pow_mul, Nat.add_comm, Nat.testBit_two_pow_mul_add _ h1]
    rcases Nat.lt_succ_iff_lt_or_eq.mp hs with q | q
    · rw [if_pos (by omega), ← mBit_test, ← mBit_test]
      exact ih (by omega) s t q ht
    · subst q
      rw [if_neg (by omega), show 8 * s + t - 8 * s = t by omega]
section
variable {e0 mo : Nat} {σ : SG} {m : Nat} {M : Nat → Nat} {A : MS} {r k j : Nat}
def oArtifacts (A : MS) (x y : Int32) : OC := bif stgB A x y then ((0, nI (mArt A x.toNatClampNeg y.toNatClampNeg 8)), A) else ((1, 0), A)
theorem mPB_needs (hP : mPB A) (hI : mB A) (hr : r < mR A) : ∀ k, k < mU A 16 r → mP A 4 r k < 256 := fun k hk => by
  have h1 := (hP r k hr hk).1
  have h2 := (hI.2.2.2.2.1 r hr).2.2.2.2.2.2
  have h3 := hI.1.1
  exact Nat.lt_of_lt_of_le h1 (show 2 ^ mU A 16 r ≤ 2 ^ 8 from Nat.pow_le_pow_right (by decide) (by omega))
theorem mInp_lt (hI : mB A) (hr : r < mR A) : mInp A r < 1000000 := by
  have h1 := hI.2.2.2.2.1 r hr
  unfold mInp
  omega
/-- how many first inputs two keys of the length l have in common, at most n -/
def mCom (a b l : Nat) : Nat → Nat
  | 0 => 0
  | n + 1 => bif Nat.beq (a / mPow (l - (n + 1))) (b / mPow (l - (n + 1))) then n + 1 else mCom a b l n
theorem mCom_le (a b l : Nat) : ∀ n, mCom a b l n ≤ n := by
  intro n
  induction n with
  | zero => exact Nat.le_refl _
  | succ n ih =>
    show (bif Nat.beq (a / mPow (l - (n + 1))) (b / mPow (l - (n + 1))) then n + 1 else mCom a b l n) ≤ _
    cases Nat.beq (a / mPow (l - (n + 1))) (b / mPow (l - (n + 1)))
    · exact Nat.le_succ_of_le ih
    · exact Nat.le_refl _
def mRot (es : List (Nat × Nat)) (i : Nat) : List (Nat × Nat) := es.eraseIdx i ++ [es.getD i (0, 0)]
theorem mRot_len {es : List (Nat × Nat)} {i : Nat} (hi : i < es.length) : (mRot es i).length = es.length := by
  unfold mRot
  rw [List.length_append, List.length_eraseIdx_of_lt hi]
  show es.length - 1 + 1 = _
  omega
theorem mRot_at {es : List (Nat × Nat)} {i x : Nat} (hi : i < es.length) (hx : x < es.length) : (mRot es i).getD x (0, 0) = es.getD (if x = es.length - 1 then i else if x < i then x else x + 1) (0, 0) := by
  unfold mRot
  have hl : (es.eraseIdx i).length = es.length - 1 := List.length_eraseIdx_of_lt hi
  rw [List.getD_eq_getElem?_getD]
  by_cases q : x = es.length - 1
  · rw [if_pos q, List.getElem?_append_right (by omega), show x - (es.eraseIdx i).length = 0 by omega]
    rfl
  · rw [if_neg q, List.getElem?_append_left (by omega), List.getElem?_eraseIdx, List.getD_eq_getElem?_getD]
    split <;> rfl
end
end AXMM
