/-! Longs as rows of bits (wb_: kit/laws, pasted); artifacts; what the reference does with cache entries. -/
section AXMM
theorem wb_tb (n : Nat) : (lN n).toBitVec = BitVec.ofNat 64 n := rfl
theorem wb_inj {a b : Int64} (h : a.toBitVec = b.toBitVec) : a = b := Int64.toBitVec_inj.mp h
theorem wb_tn {n : Nat} (h : n < 2 ^ 64) : (lN n).toBitVec.toNat = n := by rw [wb_tb, BitVec.toNat_ofNat, Nat.mod_eq_of_lt h]
theorem wb_of (x : Int64) : ∃ n, n < 2 ^ 64 ∧ x = lN n := ⟨x.toBitVec.toNat, x.toBitVec.isLt, wb_inj (by rw [wb_tb]; simp)⟩
theorem wb_c : ∀ k, k < 64 → ((nI k).toInt64 &&& 63) = lN k := by decide +kernel
theorem wb_cu : ∀ k, k < 64 → ((nI k).toInt64.toUInt64 &&& Int64.toUInt64 63) = UInt64.ofNat k := by decide +kernel
theorem wb_sm : ∀ k, k < 64 → (BitVec.ofNat 64 k).smod 64 = BitVec.ofNat 64 k := by decide +kernel
theorem wb_pw {a b : Nat} (h : a ≤ b) : 2 ^ b = 2 ^ a * 2 ^ (b - a) := by rw [← Nat.pow_add]; congr 1; omega
theorem wb_lt2 {a b : Nat} (h : a < b) : 2 ^ a < 2 ^ b := Nat.pow_lt_pow_right (by decide) h
theorem wb_mod (n : Nat) : lN n = lN (n % 2 ^ 64) := wb_inj (by rw [wb_tb, wb_tb]; apply BitVec.eq_of_toNat_eq; rw [BitVec.toNat_ofNat, BitVec.toNat_ofNat, Nat.mod_mod])
theorem wb_shr {n k : Nat} (hn : n < 2 ^ 64) (hk : k < 64) : ((lN n).toUInt64 >>> ((nI k).toInt64.toUInt64 &&& Int64.toUInt64 63)).toInt64 = lN (n / 2 ^ k) := by
  rw [wb_cu k hk]
  apply wb_inj
  apply BitVec.eq_of_toNat_eq
  show ((lN n).toUInt64 >>> UInt64.ofNat k).toNat = (BitVec.ofNat 64 _).toNat
  have h1 : (UInt64.ofNat k).toNat = k := by
    show (BitVec.ofNat 64 k).toNat = k
    rw [BitVec.toNat_ofNat, Nat.mod_eq_of_lt (by omega)]
  have h2 : (lN n).toUInt64.toNat = n := wb_tn hn
  rw [UInt64.toNat_shiftRight, h1, h2, Nat.mod_eq_of_lt hk, Nat.shiftRight_eq_div_pow, BitVec.toNat_ofNat, Nat.mod_eq_of_lt (Nat.lt_of_le_of_lt (Nat.div_le_self _ _) hn)]
theorem wb_shl (n : Nat) {k : Nat} (hk : k < 64) : lN n <<< ((nI k).toInt64 &&& 63) = lN (n * 2 ^ k) := by
  rw [wb_c k hk]
  apply wb_inj
  rw [Int64.toBitVec_shiftLeft, wb_tb, wb_tb, wb_tb, wb_sm k hk]
  apply BitVec.eq_of_toNat_eq
  rw [BitVec.shiftLeft_eq', BitVec.toNat_shiftLeft, BitVec.toNat_ofNat, BitVec.toNat_ofNat, BitVec.toNat_ofNat, Nat.mod_eq_of_lt (show k < 2 ^ 64 by omega), Nat.shiftLeft_eq, Nat.mul_mod, Nat.mod_mod, ← Nat.mul_mod]
theorem wb_and {a b : Nat} (ha : a < 2 ^ 64) (hb : b < 2 ^ 64) : lN a &&& lN b = lN (a &&& b) := by
  apply wb_inj
  rw [Int64.toBitVec_and, wb_tb, wb_tb, wb_tb]
  apply BitVec.eq_of_toNat_eq
  rw [BitVec.toNat_and, BitVec.toNat_ofNat, BitVec.toNat_ofNat, BitVec.toNat_ofNat, Nat.mod_eq_of_lt ha, Nat.mod_eq_of_lt hb, Nat.mod_eq_of_lt (Nat.and_lt_two_pow _ hb)]
theorem wb_or {a b : Nat} (ha : a < 2 ^ 64) (hb : b < 2 ^ 64) : lN a ||| lN b = lN (a ||| b) := by
  apply wb_inj
  rw [Int64.toBitVec_or, wb_tb, wb_tb, wb_tb]
  apply BitVec.eq_of_toNat_eq
  rw [BitVec.toNat_or, BitVec.toNat_ofNat, BitVec.toNat_ofNat, BitVec.toNat_ofNat, Nat.mod_eq_of_lt ha, Nat.mod_eq_of_lt hb, Nat.mod_eq_of_lt (Nat.or_lt_two_pow ha hb)]
theorem wb_mask {n k : Nat} (hn : n < 2 ^ 64) (hk : k < 64) : lN n &&& lN (2 ^ k - 1) = lN (n % 2 ^ k) := by
  rw [wb_and hn (by have := wb_lt2 hk; omega), Nat.and_two_pow_sub_one_eq_mod]
theorem wb_a1 {n : Nat} (hn : n < 2 ^ 64) : lN n &&& 1 = lN (n % 2) := wb_mask (k := 1) hn (by decide)
theorem wb_bit {n k : Nat} (hn : n < 2 ^ 64) (hk : k < 64) : ((lN n).toUInt64 >>> ((nI k).toInt64.toUInt64 &&& Int64.toUInt64 63)).toInt64 &&& 1 = lN (n / 2 ^ k % 2) := by
  rw [wb_shr hn hk, wb_a1 (Nat.lt_of_le_of_lt (Nat.div_le_self _ _) hn)]
/-- sums of what is needed -/
def mArt (A : MS) (r k : Nat) : Nat → Nat
  | 0 => 0
  | i + 1 => mArt A r k i + (bif mBit (mP A 4 r k) i then mCnt A r i 3 else 0)
theorem mArt_le (A : MS) (r k : Nat) : ∀ n, mArt A r k n ≤ 16 * n := by
  intro n
  induction n with
  | zero => exact Nat.le_refl _
  | succ n ih =>
    have h1 : mCnt A r n 3 ≤ 16 := ax_n_le _ 16
    show mArt A r k n + (bif mBit (mP A 4 r k) n then mCnt A r n 3 else 0) ≤ _
    cases mBit (mP A 4 r k) n
    · show mArt A r k n + 0 ≤ _
      omega
    · show mArt A r k n + mCnt A r n 3 ≤ _
      omega
theorem mNeeds_lt {A : MS} {r n : Nat} (h : ∀ k, k < n → mP A 4 r k < 256) : ∀ i, i ≤ n → mNeeds A r i < 2 ^ (8 * i) := by
  intro i
  induction i with
  | zero => intro _; exact Nat.one_pos
  | succ i ih =>
    intro hi
    have h1 := ih (by omega)
    have h2 := h i (by omega)
    show mNeeds A r i + 256 ^ i * mP A 4 r i < 2 ^ (8 * (i + 1))
    rw [show (256 : Nat) = 2 ^ 8 from rfl, ← Nat.pow_mul, show 8 * (i + 1) = 8 * i + 8 from rfl, Nat.pow_add]
    have h3 : 2 ^ (8 * i) * mP A 4 r i ≤ 2 ^ (8 * i) * 255 := Nat.mul_le_mul_left _ (by omega)
    omega
theorem mNeeds_bit {A : MS} {r n : Nat} (h : ∀ k, k < n → mP A 4 r k < 256) : ∀ i, i ≤ n → ∀ s t, s < i → t < 8 → mBit (mNeeds A r i) (8 * s + t) = mBit (mP A 4 r s) t := by
  intro i
  induction i with
  | zero => intro _ s t hs; exact absurd hs (Nat.not_lt_zero s)
  | succ i ih =>
    intro hi s t hs ht
    have h1 := mNeeds_lt h i (by omega)
    rw [mBit_test, mBit_test]
    show (mNeeds A r i + 256 ^ i * mP A 4 r i).testBit (8 * s + t) = _
    rw [show (256 : Nat) = 2 ^ 8 from rfl, ← Nat.pow_mul, Nat.add_comm, Nat.testBit_two_pow_mul_add _ h1]
    rcases Nat.lt_succ_iff_lt_or_eq.mp hs with q | q
    · rw [if_pos (by omega), ← mBit_test, ← mBit_test]
      exact ih (by omega) s t q ht
    · subst q
      rw [if_neg (by omega), show 8 * s + t - 8 * s = t by omega]
section
variable {e0 mo : Nat} {σ : SG} {m : Nat} {M : Nat → Nat} {A : MS} {r k j : Nat}
def oArtifacts (A : MS) (x y : Int32) : OC := bif stgB A x y then ((0, nI (mArt A x.toNatClampNeg y.toNatClampNeg 8)), A) else ((1, 0), A)
theorem mPB_needs (hP : mPB A) (hI : mB A) (hr : r < mR A) : ∀ k, k < mU A 16 r → mP A 4 r k < 256 := fun k hk => by
  have h1 := (hP r k hr hk).1
  have h2 := (hI.2.2.2.2.1 r hr).2.2.2.2.2.2
  have h3 := hI.1.1
  exact Nat.lt_of_lt_of_le h1 (show 2 ^ mU A 16 r ≤ 2 ^ 8 from Nat.pow_le_pow_right (by decide) (by omega))
theorem ct_130 (h : ax_rm σ m M A) (hI : mB A) (hT : mT A) (hP : mPB A) (x y : Int32) : ax_ok e0 mo 3 130 [aR m, aI x, aI y] σ (rf_an m M σ (oArtifacts A x y)) := by
  have hR := hI.1.2
  refine sg_130_0 (d := 2) ⟨ax_kd h.1.1, ?_⟩
  refine ax_use (ct_128 h hI x y) rfl fun w σ2 hw => ?_
  obtain ⟨rfl, h2, f2, t2⟩ := hw
  unfold oArtifacts
  refine sg_130_8 (d := 2) ?_
  cases e : stgB A x y with
  | false =>
    rw [e] at t2
    exact sg_130_13 (d := 2) ⟨fun _ => ⟨fun _ => ⟨fun z => (Nat.one_ne_zero z).elim, t2, h2, f2⟩, fun q => absurd rfl q⟩, fun q => absurd (by decide) q⟩
  | true =>
    rw [e] at t2
    obtain ⟨r, k, rfl, rfl, hr, hk, hk8, c1, c2⟩ := stgB_yes e hI
    rw [c1, c2]
    obtain ⟨g1, g2⟩ := rm_row h2 (i := 15) (mr_of (by decide) (by decide) (by decide) (by decide))
    have g2 : sgK σ2 (M 15) = (22, 80) := g2
    have i15 : ax_in σ2 22 (M 15) (nI r) := ax_in_nI g2 (by omega) (by decide)
    have hb := mPB_needs hP hI hr
    have hl := mNeeds_lt hb (mU A 16 r) (Nat.le_refl _)
    have h16 := (hI.2.2.2.2.1 r hr).2.2.2.2.2.2
    have hN := hI.1.1
    have hl64 : mNeeds A r (mU A 16 r) < 2 ^ 64 := Nat.lt_of_lt_of_le hl (Nat.pow_le_pow_right (by decide) (by omega))
    refine ax_down (N := 8) (fun i => ax_wp e0 mo 3 130 (13, [aR m, aI (nI r), aI (nI k), aI (nI (mArt A r k i)), aI 1, aI (nI i)], []) σ2 _) ?_ (fun i hi ih => ?_) 0 (Nat.zero_le _)
    · exact sg_130_13 (d := 2) ⟨fun q => absurd q (by decide), fun _ => ⟨fun _ => rfl, t2, h2, f2⟩⟩
    · have hlt : nI i < 8 := nI_lt (b := 8) hi (by decide)
      have em : (8 : Int32) * nI k + nI i = nI (8 * k + i) := by rw [show (8 : Int32) = nI 8 from rfl, pk_mul, nI_add]
      refine sg_130_13 (d := 2) ⟨fun _ => ⟨fun q => absurd q (by decide), fun _ => ⟨ax_kd h2.1.1, ?_⟩⟩, fun q => absurd hlt q⟩
      rw [g1, c1, h2.2.2.2.2.1 r hr, em]
      refine ⟨i15, ?_⟩
      have eb : (ax_ushJ (lN (mNeeds A r (mU A 16 r))) (nI (8 * k + i)) &&& Int64.ofNat 1) = lN (mNeeds A r (mU A 16 r) / 2 ^ (8 * k + i) % 2) := wb_bit hl64 (by omega)
      rw [eb]
      have ec : lg_cmp (lN (mNeeds A r (mU A 16 r) / 2 ^ (8 * k + i) % 2)) (Int64.ofNat 1) = 0 ↔ mBit (mP A 4 r k) i = true := by
        rw [lg_cmp_eq, show Int64.ofNat 1 = lN 1 from rfl, lN_eq (by omega) (by decide), ← mNeeds_bit hb _ (Nat.le_refl _) k i hk hi, mBit_01]
        cases mBit (mNeeds A r (mU A 16 r)) (8 * k + i) <;> decide
      refine ⟨fun q => ⟨ax_kd h2.1.1, ?_⟩, fun q => ?_⟩
      · have e1 := ec.mp q
        refine ax_use0 (ct_106 (a := 3) (b := 3) h2 hI hT hr (by omega) (by decide) (by decide)) rfl ?_
        rw [mBt_one]
        refine sg_130_56 (d := 2) ?_
        rw [nI_add, nI_1]
        have e2 : mArt A r k (i + 1) = mArt A r k i + mCnt A r i 3 := by
          show mArt A r k i + (bif mBit (mP A 4 r k) i then mCnt A r i 3 else 0) = _
          rw [e1]; rfl
        rw [e2] at ih
        exact ih
      · have e1 := not_true_b (fun z => q (ec.mpr z))
        have e2 : mArt A r k (i + 1) = mArt A r k i := by
          show mArt A r k i + (bif mBit (mP A 4 r k) i then mCnt A r i 3 else 0) = _
          rw [e1]; rfl
        rw [e2] at ih
        rw [show nI (mArt A r k i) + 0 = nI (mArt A r k i) from nI_add _ 0, nI_1]
        exact ih
theorem mInp_lt (hI : mB A) (hr : r < mR A) : mInp A r < 1000000 := by
  have h1 := hI.2.2.2.2.1 r hr
  unfold mInp
  omega
theorem ct_143 (h : ax_rm σ m M A) (hI : mB A) (hr : r < mR A) {l : Nat} (hl : l ≤ 3) : ax_ok e0 mo 1 143 [aR m, aI (nI r), aI (nI l)] σ (fun w σ2 => w = aI (nI (mKey A r l)) ∧ σ2 = σ) := by
  have hR := hI.1.2
  have hin := mInp_lt hI hr
  obtain ⟨g1, g2, g3⟩ := rm_run h hI (f := 13) (by decide) (show r < 80 by omega)
  refine sg_143_0 (d := 0) ⟨ax_kd h.1.1, ?_⟩
  rw [g1, g3, (h.2.2.2.1 r hr).2.2.1, show (3 : Int32) = nI 3 from rfl, pk_sub hl]
  refine ⟨g2, ?_⟩
  refine ax_use0 (ct_142 (by omega)) rfl ?_
  have hp := mPow_le (3 - l)
  refine sg_143_12 (d := 0) ⟨nI_ne0 (by omega) (by omega), ?_⟩
  rw [pk_div (by omega) (by omega) (by omega)]
  exact ⟨rfl, rfl⟩
/-- how many first inputs two keys of the length l have in common, at most n -/
def mCom (a b l : Nat) : Nat → Nat
  | 0 => 0
  | n + 1 => bif Nat.beq (a / mPow (l - (n + 1))) (b / mPow (l - (n + 1))) then n + 1 else mCom a b l n
theorem mCom_le (a b l : Nat) : ∀ n, mCom a b l n ≤ n := by
  intro n
  induction n with
  | zero => exact Nat.le_refl _
  | succ n ih =>
    show (bif Nat.beq (a / mPow (l - (n + 1))) (b / mPow (l - (n + 1))) then n + 1 else mCom a b l n) ≤ _
    cases Nat.beq (a / mPow (l - (n + 1))) (b / mPow (l - (n + 1)))
    · exact Nat.le_succ_of_le ih
    · exact Nat.le_refl _
theorem ct_144 {a b l : Nat} (ha : a < 2 ^ 31) (hb : b < 2 ^ 31) (hl : l ≤ 3) : ax_ok e0 mo 1 144 [aI (nI a), aI (nI b), aI (nI l)] σ (fun w σ2 => w = aI (nI (mCom a b l l)) ∧ σ2 = σ) := by
  refine sg_144_0 (d := 0) ?_
  have key : ∀ n, n ≤ l → ax_wp e0 mo 1 144 (2, [aI (nI a), aI (nI b), aI (nI l), aI (nI n)], []) σ (ax_ct (fun w σ2 => w = aI (nI (mCom a b l n)) ∧ σ2 = σ) (fun _ _ => False)) := by
    intro n
    induction n with
    | zero => intro _; exact sg_144_2 (d := 0) ⟨fun q => absurd q (by decide), fun _ => ⟨rfl, rfl⟩⟩
    | succ n ih =>
      intro hn
      have hp := mPow_le (l - (n + 1))
      refine sg_144_2 (d := 0) ⟨fun _ => ?_, fun q => absurd (nI_lt (a := 0) (show 0 < n + 1 by omega) (by omega)) q⟩
      rw [pk_sub hn]
      refine ax_use0 (ct_142 (by omega)) rfl ?_
      refine sg_144_13 (d := 0) ⟨nI_ne0 (by omega) (by omega), ?_⟩
      rw [pk_sub hn]
      refine ax_use0 (ct_142 (by omega)) rfl ?_
      refine sg_144_21 (d := 0) ⟨nI_ne0 (by omega) (by omega), ?_⟩
      rw [pk_div ha (by omega) (by omega), pk_div hb (by omega) (by omega)]
      refine pk_eq (a / mPow (l - (n + 1))) (b / mPow (l - (n + 1))) (fun q => ?_) (fun q => ?_) rfl rfl (Nat.lt_of_le_of_lt (Nat.div_le_self _ _) ha) (Nat.lt_of_le_of_lt (Nat.div_le_self _ _) hb)
      · refine ⟨?_, rfl⟩
        show _ = aI (nI (bif Nat.beq (a / mPow (l - (n + 1))) (b / mPow (l - (n + 1))) then n + 1 else mCom a b l n))
        rw [q, Nat.beq_refl]
        rfl
      · rw [pk_m1]
        have e : mCom a b l (n + 1) = mCom a b l n := by
          show (bif Nat.beq (a / mPow (l - (n + 1))) (b / mPow (l - (n + 1))) then n + 1 else mCom a b l n) = _
          rw [nb_ne q]
          rfl
        rw [e]
        exact ih (by omega)
  exact key l (Nat.le_refl _)
def mRot (es : List (Nat × Nat)) (i : Nat) : List (Nat × Nat) := es.eraseIdx i ++ [es.getD i (0, 0)]
theorem mRot_len {es : List (Nat × Nat)} {i : Nat} (hi : i < es.length) : (mRot es i).length = es.length := by
  unfold mRot
  rw [List.length_append, List.length_eraseIdx_of_lt hi]
  show es.length - 1 + 1 = _
  omega
theorem mRot_at {es : List (Nat × Nat)} {i x : Nat} (hi : i < es.length) (hx : x < es.length) : (mRot es i).getD x (0, 0) = es.getD (if x = es.length - 1 then i else if x < i then x else x + 1) (0, 0) := by
  unfold mRot
  have hl : (es.eraseIdx i).length = es.length - 1 := List.length_eraseIdx_of_lt hi
  rw [List.getD_eq_getElem?_getD]
  by_cases q : x = es.length - 1
  · rw [if_pos q, List.getElem?_append_right (by omega), show x - (es.eraseIdx i).length = 0 by omega]
    rfl
  · rw [if_neg q, List.getElem?_append_left (by omega), List.getElem?_eraseIdx, List.getD_eq_getElem?_getD]
    split <;> rfl
theorem ct_145 (h : ax_rm σ m M A) {i : Nat} (hi : i < (mE A).length) (hl : (mE A).length ≤ 11) : ax_ok e0 mo 0 145 [aR m, aI (nI i)] σ (fun w σ2 => w = aU ∧ ax_rm σ2 m M (A.1, A.2.1, mRot (mE A) i) ∧ ax_mf m M σ σ2) := by
  have h21 : ax_mr 21 := mr_of (by decide) (by decide) (by decide) (by decide)
  obtain ⟨g1, g2, g3⟩ := rm_e h (i := i) (by omega)
  have hc : ∀ x, x < (mE A).length → sgI σ 20 x (M 21) = nI (mCe ((mE A).getD x (0, 0))) := h.2.2.2.2.2.2.2.2.2
  have hL : sgI σ 7 22 m = nI (mE A).length := h.2.1.2.2.2
  refine sg_145_0 ⟨ax_kd h.1.1, ?_⟩
  rw [g1, g3, hc i hi]
  refine ⟨g2, ?_⟩
  refine ax_down (N := (mE A).length - 1) (fun k => i ≤ k → ∀ σ1, ax_but σ σ1 m M 21 22 → ax_mf m M σ σ1 → sgI σ1 7 22 m = nI (mE A).length → (∀ x, x < (mE A).length → sgI σ1 20 x (M 21) = nI (mCe ((mE A).getD (if i ≤ x ∧ x < k then x + 1 else x) (0, 0)))) → ax_wp e0 mo 0 145 (9, [aR m, aI (nI i), aI (nI (mCe ((mE A).getD i (0, 0)))), aI (nI k)], []) σ1 _) ?_ (fun k hk ih => ?_) i (by omega) (Nat.le_refl _) σ (ax_but.refl _ _ _ _ _) (ax_mf.refl _ _ _) hL (fun x hx => by rw [if_neg (by omega)]; exact hc x hx)
  · intro hik σ1 b1 f1 l1 c1
    have s1 := b1.shape h.1
    obtain ⟨q1, q2⟩ := s1.2.1 21 h21
    refine sg_145_9 ⟨ax_kd s1.1, ?_⟩
    rw [l1, q1, nI_p1 (show (mE A).length ≠ 0 by omega), nI_clamp (show (mE A).length - 1 < 2 ^ 31 by omega)]
    refine ⟨fun q => absurd q (nI_nlt (Nat.le_refl _) (by omega)), fun _ => ⟨ax_kd s1.1, ax_kd s1.1, ax_in_nI (n := 11) q2 (by omega) (by decide), rfl, ?_, f1.row h21 _ (Or.inl rfl)⟩⟩
    refine rm_en h b1.put ?_ fun x hx => ?_
    · rw [gI_putI, if_neg (fun z => absurd z.1 (by decide)), mRot_len hi]
      exact l1
    · rw [mRot_len hi] at hx
      rw [gI_putI, mRot_at hi hx]
      by_cases q : x = (mE A).length - 1
      · rw [if_pos ⟨rfl, q, rfl⟩, if_pos q]
      · rw [if_neg (fun z => q z.2.1), if_neg q, c1 x hx]
        show nI (10 * _ + _) = _
        by_cases w : x < i
        · rw [if_pos w, if_neg (by omega)]
        · rw [if_neg w, if_pos (by omega)]
  · intro hik σ1 b1 f1 l1 c1
    have s1 := b1.shape h.1
    obtain ⟨q1, q2⟩ := s1.2.1 21 h21
    have k1 : (nI k).toNatClampNeg = k := nI_clamp (by omega)
    have k2 : (nI (k + 1)).toNatClampNeg = k + 1 := nI_clamp (by omega)
    refine sg_145_9 ⟨ax_kd s1.1, ?_⟩
    rw [l1, q1, nI_p1 (show (mE A).length ≠ 0 by omega), nI_1, k1, k2]
    refine ⟨fun _ => ⟨ax_kd s1.1, ax_kd s1.1, ax_in_nI (n := 11) q2 (by omega) (by decide), ax_in_nI (n := 11) q2 (by omega) (by decide), ?_⟩, fun q => absurd (nI_lt hk (by omega)) q⟩
    refine ih (by omega) _ b1.put (f1.row h21 _ (Or.inl rfl)) ?_ fun x hx => ?_
    · rw [gI_putI, if_neg (fun z => absurd z.1 (by decide))]
      exact l1
    · rw [gI_putI]
      by_cases q : x = k
      · rw [if_pos ⟨rfl, q, rfl⟩, if_pos (by omega), c1 (k + 1) (by omega), if_neg (by omega), q]
      · rw [if_neg (fun z => q z.2.1), c1 x hx]
        by_cases w : i ≤ x ∧ x < k
        · rw [if_pos w, if_pos (by omega)]
        · rw [if_neg w, if_neg (by omega)]
end
end AXMM
