/-! The count of bits. -/
section AXBT
/-- how many of the first n places of x are 1 -/
def ax_bc (x : Nat) : Nat → Nat
  | 0 => 0
  | n + 1 => ax_bc x n + x / 2 ^ n % 2
theorem ax_and2 (x mh ml : Nat) (h : ml < 256) : x &&& (256 * mh + ml) = 256 * ((x / 256) &&& mh) + ((x % 256) &&& ml) := by
  have e1 : (x &&& (256 * mh + ml)) / 2 ^ 8 = x / 2 ^ 8 &&& (256 * mh + ml) / 2 ^ 8 := Nat.and_div_two_pow
  have e2 : (x &&& (256 * mh + ml)) % 2 ^ 8 = x % 2 ^ 8 &&& (256 * mh + ml) % 2 ^ 8 := Nat.and_mod_two_pow
  have e3 : (256 * mh + ml) / 2 ^ 8 = mh := by omega
  have e4 : (256 * mh + ml) % 2 ^ 8 = ml := by omega
  rw [e3] at e1
  rw [e4] at e2
  have e5 := Nat.div_add_mod (x &&& (256 * mh + ml)) (2 ^ 8)
  rw [e1, e2] at e5
  exact e5.symm
theorem ax_andl {y : Nat} (h : y < 256) (mh ml : Nat) (hm : ml < 256) : y &&& (256 * mh + ml) = y &&& ml := by
  rw [ax_and2 y mh ml hm, Nat.div_eq_of_lt h, Nat.mod_eq_of_lt h, Nat.zero_and, Nat.mul_zero, Nat.zero_add]
def ax_fa (l : Nat) : Nat := l - (l / 2 &&& 85)
def ax_fb (a : Nat) : Nat := (a &&& 51) + (a / 4 &&& 51)
def ax_fc (b : Nat) : Nat := (b + b / 16) &&& 15
def ax_byc (l : Nat) : Bool := Nat.ble (l / 2 &&& 85) l && Nat.blt (ax_fa l) 256 && Nat.ble (ax_fb (ax_fa l)) 68 && Nat.ble (ax_fb (ax_fa l) % 16) 4 && Nat.beq (ax_fc (ax_fb (ax_fa l))) (ax_bc l 8) && Nat.ble (ax_bc l 8) 8
theorem ax_bys : (List.range 256).all ax_byc = true := by decide +kernel
theorem ax_by {l : Nat} (h : l < 256) : (l / 2 &&& 85) ≤ l ∧ ax_fa l < 256 ∧ ax_fb (ax_fa l) ≤ 68 ∧ ax_fb (ax_fa l) % 16 ≤ 4 ∧ ax_fc (ax_fb (ax_fa l)) = ax_bc l 8 ∧ ax_bc l 8 ≤ 8 := by
  have h1 := List.all_eq_true.mp ax_bys l (List.mem_range.mpr h)
  unfold ax_byc at h1
  simp only [Bool.and_eq_true] at h1
  obtain ⟨⟨⟨⟨⟨q1, q2⟩, q3⟩, q6⟩, q4⟩, q5⟩ := h1
  exact ⟨Nat.le_of_ble_eq_true q1, Nat.blt_eq.mp q2, Nat.le_of_ble_eq_true q3, Nat.le_of_ble_eq_true q6, ax_beq q4, Nat.le_of_ble_eq_true q5⟩
theorem ax_m85 : ∀ r, r < 2 → ∀ q, q < 128 → (128 * r + q) &&& 85 = q &&& 85 := by decide +kernel
theorem ax_m51 : ∀ r, r < 4 → ∀ q, q < 64 → (64 * r + q) &&& 51 = q &&& 51 := by decide +kernel
theorem ax_m15 : ∀ r, r < 16 → ∀ q, q < 80 → (16 * r + q) &&& 15 = q &&& 15 := by decide +kernel
theorem ax_w1 {h l : Nat} (hh : h < 256) (hl : l < 256) : (256 * h + l) / 2 &&& 1431655765 = 256 * (h / 2 &&& 85) + (l / 2 &&& 85) := by
  rw [show (1431655765 : Nat) = 256 * (256 * 21845 + 85) + 85 by decide, ax_and2 _ _ _ (by decide)]
  have e1 : (256 * h + l) / 2 / 256 = h / 2 := by omega
  have e2 : (256 * h + l) / 2 % 256 = 128 * (h % 2) + l / 2 := by omega
  rw [e1, e2, ax_m85 _ (by omega) _ (by omega), ax_andl (by omega) _ _ (by decide)]
theorem ax_w2 {h l : Nat} (hh : h < 256) (hl : l < 256) : (256 * h + l) &&& 858993459 = 256 * (h &&& 51) + (l &&& 51) := by
  rw [show (858993459 : Nat) = 256 * (256 * 13107 + 51) + 51 by decide, ax_and2 _ _ _ (by decide)]
  have e1 : (256 * h + l) / 256 = h := by omega
  have e2 : (256 * h + l) % 256 = l := by omega
  rw [e1, e2, ax_andl (by omega) _ _ (by decide)]
theorem ax_w3 {h l : Nat} (hh : h < 256) (hl : l < 256) : (256 * h + l) / 4 &&& 858993459 = 256 * (h / 4 &&& 51) + (l / 4 &&& 51) := by
  rw [show (858993459 : Nat) = 256 * (256 * 13107 + 51) + 51 by decide, ax_and2 _ _ _ (by decide)]
  have e1 : (256 * h + l) / 4 / 256 = h / 4 := by omega
  have e2 : (256 * h + l) / 4 % 256 = 64 * (h % 4) + l / 4 := by omega
  rw [e1, e2, ax_m51 _ (by omega) _ (by omega), ax_andl (by omega) _ _ (by decide)]
theorem ax_w4 {h l : Nat} (hh : h ≤ 68) (hl : l ≤ 68) (hh2 : h % 16 ≤ 4) : (256 * h + l + (256 * h + l) / 16) &&& 252645135 = 256 * ((h + h / 16) &&& 15) + ((l + l / 16) &&& 15) := by
  rw [show (252645135 : Nat) = 256 * (256 * 3855 + 15) + 15 by decide, ax_and2 _ _ _ (by decide)]
  have e1 : (256 * h + l + (256 * h + l) / 16) / 256 = h + h / 16 := by omega
  have e2 : (256 * h + l + (256 * h + l) / 16) % 256 = 16 * (h % 16) + (l + l / 16) := by omega
  rw [e1, e2, ax_m15 _ (by omega) _ (by omega), ax_andl (by omega) _ _ (by decide)]
theorem ax_bc_low (h l : Nat) : ∀ m, m ≤ 8 → ax_bc (256 * h + l) m = ax_bc l m := by
  intro m
  induction m with
  | zero => intro _; rfl
  | succ m ih =>
    intro hm
    unfold ax_bc
    rw [ih (by omega)]
    have hp : (256 : Nat) = 2 ^ m * (2 * 2 ^ (7 - m)) := by
      have h1 : (256 : Nat) = 2 ^ (m + (1 + (7 - m))) := by rw [show m + (1 + (7 - m)) = 8 by omega]
      rw [h1, Nat.pow_add, Nat.pow_add]
    have e : (256 * h + l) / 2 ^ m = 2 * (2 ^ (7 - m) * h) + l / 2 ^ m := by
      rw [hp, Nat.mul_assoc, Nat.mul_add_div (Nat.two_pow_pos m), Nat.mul_assoc]
    rw [e]
    omega
theorem ax_bc_up (x : Nat) : ∀ m, ax_bc x (8 + m) = ax_bc x 8 + ax_bc (x / 256) m := by
  intro m
  induction m with
  | zero => rfl
  | succ m ih =>
    show ax_bc x (8 + m) + x / 2 ^ (8 + m) % 2 = ax_bc x 8 + (ax_bc (x / 256) m + x / 256 / 2 ^ m % 2)
    rw [ih, Nat.pow_add, ← Nat.div_div_eq_div_mul]
    show _ + x / 256 / 2 ^ m % 2 = _
    omega
theorem ax_bc16 {h l : Nat} (hl : l < 256) : ax_bc (256 * h + l) 16 = ax_bc h 8 + ax_bc l 8 := by
  have h1 : ax_bc (256 * h + l) 16 = ax_bc (256 * h + l) 8 + ax_bc ((256 * h + l) / 256) 8 := ax_bc_up (256 * h + l) 8
  rw [ax_bc_low h l 8 (Nat.le_refl _), show (256 * h + l) / 256 = h by omega] at h1
  omega
theorem ax_andI (a b : Nat) : nI a &&& nI b = nI (a &&& b) := by
  unfold nI
  apply Int32.toBitVec_inj.mp
  rw [Int32.toBitVec_and]
  apply BitVec.eq_of_toNat_eq
  rw [BitVec.toNat_and]
  show a % 2 ^ 32 &&& b % 2 ^ 32 = (a &&& b) % 2 ^ 32
  exact (Nat.and_mod_two_pow).symm
theorem ax_ush_nI {n : Nat} (hn : n < 2 ^ 32) (s : Int32) (k : Nat) (hs : ((s.toUInt32 &&& Int32.toUInt32 31).toBitVec % 32).toNat = k) : ax_ush (nI n) s = nI (n / 2 ^ k) := pk_ushrN hn s k hs
theorem ct_151 {e0 mo n : Nat} {σ : SG} (hn : n < 65536) : ax_ok e0 mo 0 151 [aI (nI n)] σ (fun v σ2 => v = aI (nI (ax_bc n 16)) ∧ σ2 = σ) := by
  obtain ⟨h, l, hh, hl, rfl⟩ : ∃ h l, h < 256 ∧ l < 256 ∧ n = 256 * h + l := ⟨n / 256, n % 256, by omega, by omega, by omega⟩
  obtain ⟨p1, p2, p3, p6, p4, p5⟩ := ax_by hh
  obtain ⟨q1, q2, q3, q6, q4, q5⟩ := ax_by hl
  rw [ax_bc16 hl]
  refine sg_151_0 ?_
  have l1 : (1431655765 : Int32) = nI 1431655765 := rfl
  have l2 : (858993459 : Int32) = nI 858993459 := rfl
  have l3 : (252645135 : Int32) = nI 252645135 := rfl
  have l4 : (63 : Int32) = nI 63 := rfl
  rw [l1, l2, l3, l4]
  rw [ax_ush_nI (by omega) 1 1 (by decide), ax_andI, Nat.pow_one, ax_w1 hh hl, pk_sub (by omega)]
  have ea : 256 * h + l - (256 * (h / 2 &&& 85) + (l / 2 &&& 85)) = 256 * ax_fa h + ax_fa l := by unfold ax_fa; omega
  rw [ea, ax_ush_nI (by omega) 2 2 (by decide), ax_andI, ax_andI, nI_add, ax_w2 p2 q2, show (2 : Nat) ^ 2 = 4 from rfl, ax_w3 p2 q2]
  have eb : 256 * (ax_fa h &&& 51) + (ax_fa l &&& 51) + (256 * (ax_fa h / 4 &&& 51) + (ax_fa l / 4 &&& 51)) = 256 * ax_fb (ax_fa h) + ax_fb (ax_fa l) := by unfold ax_fb; omega
  rw [eb, ax_ush_nI (by omega) 4 4 (by decide), nI_add, ax_andI, show (2 : Nat) ^ 4 = 16 from rfl, ax_w4 p3 q3 p6]
  have ec : 256 * ((ax_fb (ax_fa h) + ax_fb (ax_fa h) / 16) &&& 15) + ((ax_fb (ax_fa l) + ax_fb (ax_fa l) / 16) &&& 15) = 256 * ax_bc h 8 + ax_bc l 8 := by rw [← p4, ← q4]; rfl
  rw [ec, ax_ush_nI (by omega) 8 8 (by decide), nI_add]
  have ed : (256 * ax_bc h 8 + ax_bc l 8) / 2 ^ 8 = ax_bc h 8 := by omega
  rw [ed, ax_ush_nI (by omega) 16 16 (by decide), nI_add, ax_andI]
  have ee : (256 * ax_bc h 8 + ax_bc l 8 + ax_bc h 8) / 2 ^ 16 = 0 := by omega
  rw [ee, Nat.add_zero]
  have ef : (256 * ax_bc h 8 + ax_bc l 8 + ax_bc h 8) &&& 63 = ax_bc h 8 + ax_bc l 8 := by
    rw [show (63 : Nat) = 2 ^ 6 - 1 from rfl, Nat.and_two_pow_sub_one_eq_mod]
    omega
  rw [ef]
  exact ⟨rfl, rfl⟩
end AXBT
