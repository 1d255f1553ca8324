/-! The reference's heap, and its small methods. -/
section AXMD
/-- kinds and lengths of the reference's rows by their fields -/
def ax_md (i : Nat) : Nat × Nat := [(0, 0), (20, 8), (20, 8), (20, 8), (20, 8), (20, 8), (20, 8), (21, 8), (21, 8), (21, 8), (0, 0), (20, 80), (20, 80), (20, 80), (20, 80), (22, 80), (20, 80), (20, 10240), (20, 800), (0, 0), (20, 4), (20, 11)].getD i (0, 0)
def ax_mr (i : Nat) : Prop := i < 22 ∧ i ≠ 0 ∧ i ≠ 10 ∧ i ≠ 19
/-- the reference's object and rows; b is where what is not the reference's begins to lie no more -/
def ax_rmS (σ : SG) (m : Nat) (M : Nat → Nat) : Prop := sgK σ m = (7, 24) ∧ (∀ i, ax_mr i → sgR σ 7 i m = M i ∧ sgK σ (M i) = ax_md i) ∧ (∀ i j, ax_mr i → ax_mr j → M i = M j → i = j)
def ax_rmC (σ : SG) (m : Nat) (M : Nat → Nat) (A : MS) : Prop :=
  (sgI σ 7 0 m = nI (mN A) ∧ sgI σ 7 10 m = nI (mR A) ∧ sgI σ 7 19 m = nI (mQ A).length ∧ sgI σ 7 22 m = nI (mE A).length) ∧
  (∀ f k, 1 ≤ f → f ≤ 9 → k < 8 → sgI σ (if f < 7 then 20 else 21) k (M f) = nI (mS A f k)) ∧
  (∀ r, r < mR A → sgI σ 20 r (M 11) = nI (mU A 11 r) ∧ sgI σ 20 r (M 12) = nI (mU A 12 r) ∧ sgI σ 20 r (M 13) = nI (mInp A r) ∧ sgI σ 20 r (M 14) = nI (mU A 16 r)) ∧
  (∀ r, r < mR A → sgJ σ 22 r (M 15) = lN (mNeeds A r (mU A 16 r))) ∧
  (∀ r, r < mR A → ¬ mG A r → r + 1 ≠ A.1 60 0 0 0 → sgI σ 20 r (M 16) = nI (mGoods A r (mU A 16 r))) ∧
  (∀ r k j, r < mR A → k < 8 → j < 16 → sgI σ 20 (128 * r + 16 * k + j) (M 17) = nI (mC A r k j)) ∧
  (∀ i, i < (mQ A).length → sgI σ 20 i (M 18) = nI ((mQ A).getD i 0)) ∧
  (∀ w, w < 4 → sgI σ 20 w (M 20) = nI (mW A w) - 1) ∧
  (∀ i, i < (mE A).length → sgI σ 20 i (M 21) = nI (10 * ((mE A).getD i (0, 0)).2 + ((mE A).getD i (0, 0)).1))
def ax_rm (σ : SG) (m : Nat) (M : Nat → Nat) (A : MS) : Prop := ax_rmS σ m M ∧ ax_rmC σ m M A
/-- what the reference may write -/
def ax_mWr (m : Nat) (M : Nat → Nat) : Nat → Nat → Nat → Prop := fun k _ q => (k = 7 ∧ q = m) ∨ ((k = 20 ∨ k = 21 ∨ k = 22) ∧ ∃ j, ax_mr j ∧ q = M j)
section
variable {e0 mo : Nat} {σ : SG} {m : Nat} {M : Nat → Nat} {A : MS}
theorem ax_rmS.putI {k i q : Nat} {v : Int32} (h : ax_rmS σ m M) : ax_rmS (putI σ k i q v) m M := h
theorem ax_rmS.putJ {k i q : Nat} {v : Int64} (h : ax_rmS σ m M) : ax_rmS (putJ σ k i q v) m M := h
theorem ax_rm.thr {v : Int32} (h : ax_rm σ m M A) : ax_rm (putI σ 7 23 m v) m M A := by
  obtain ⟨h0, ⟨c1, c2, c3, c4⟩, h2, h3, h4, h5, h6, h7, h8, h9⟩ := h
  refine ⟨h0, ⟨?_, ?_, ?_, ?_⟩, fun f k a b c => ?_, fun r hr => ?_, h4, fun r a b c0 => ?_, fun r k j a b c => ?_, fun i hi => ?_, fun w hw => ?_, fun i hi => ?_⟩
  · rw [gI_putI, if_neg (fun z => absurd z.2.1 (by decide))]; exact c1
  · rw [gI_putI, if_neg (fun z => absurd z.2.1 (by decide))]; exact c2
  · rw [gI_putI, if_neg (fun z => absurd z.2.1 (by decide))]; exact c3
  · rw [gI_putI, if_neg (fun z => absurd z.2.1 (by decide))]; exact c4
  · rw [gI_putI, if_neg (fun z => by have := z.1; split at this <;> omega)]; exact h2 f k a b c
  · obtain ⟨d1, d2, d3, d4⟩ := h3 r hr
    refine ⟨?_, ?_, ?_, ?_⟩
    · rw [gI_putI, if_neg (fun z => absurd z.1 (by decide))]; exact d1
    · rw [gI_putI, if_neg (fun z => absurd z.1 (by decide))]; exact d2
    · rw [gI_putI, if_neg (fun z => absurd z.1 (by decide))]; exact d3
    · rw [gI_putI, if_neg (fun z => absurd z.1 (by decide))]; exact d4
  · rw [gI_putI, if_neg (fun z => absurd z.1 (by decide))]; exact h5 r a b c0
  · rw [gI_putI, if_neg (fun z => absurd z.1 (by decide))]; exact h6 r k j a b c
  · rw [gI_putI, if_neg (fun z => absurd z.1 (by decide))]; exact h7 i hi
  · rw [gI_putI, if_neg (fun z => absurd z.1 (by decide))]; exact h8 w hw
  · rw [gI_putI, if_neg (fun z => absurd z.1 (by decide))]; exact h9 i hi
/-- a Boolean as a number -/
abbrev bI (b : Bool) : Int32 := if b then 1 else 0
theorem bI01 (b : Bool) : bI b = 0 ∨ bI b = 1 := by cases b <;> simp [bI]
theorem ct_85 (v lo hi : Int32) : ax_ok e0 mo 0 85 [aI v, aI lo, aI hi] σ (fun w σ2 => w = aI (bI (decide (lo ≤ v ∧ v ≤ hi))) ∧ σ2 = σ) := by
  refine sg_85_0 ⟨fun h => ?_, fun h => ?_⟩
  · refine ⟨Or.inl rfl, ?_, rfl⟩
    rw [decide_eq_false (fun z => Int32.not_lt.mpr z.1 h)]
    rfl
  · refine ⟨fun h2 => ⟨Or.inl rfl, ?_, rfl⟩, fun h2 => ⟨Or.inr rfl, ?_, rfl⟩⟩
    · rw [decide_eq_false (fun z => Int32.not_lt.mpr z.2 h2)]
      rfl
    · rw [decide_eq_true ⟨Int32.not_lt.mp h, Int32.not_lt.mp h2⟩]
      rfl
/-- in a row of n -/
theorem in_nI {n j : Nat} (hj : j < n) (hn : n < 2 ^ 31) : decide ((0 : Int32) ≤ nI j ∧ nI j ≤ nI n - 1) = true := by
  rw [show nI n - 1 = nI (n - 1) from pk_sub (a := n) (b := 1) (by omega)]
  exact decide_eq_true ⟨nI_pos' (by omega), nI_le (by omega) (by omega)⟩
/-- out of a row of n -/
def ax_out (x : Int32) (n : Nat) : Prop := x < 0 ∨ nI n ≤ x
theorem in_out {n : Nat} {x : Int32} (h : ax_out x n) (hn : n < 2 ^ 31) : decide ((0 : Int32) ≤ x ∧ x ≤ nI n - 1) = false := by
  refine decide_eq_false fun z => ?_
  rcases h with h | h
  · exact Int32.not_lt.mpr z.1 h
  · have h0 : (nI n).toInt = n := nI_toInt hn
    have h1 := (fa_le9 _ _).mp h
    have h2 := (fa_le9 _ _).mp z.2
    have h3 : (nI n - 1).toInt = (n : Int) - 1 := by
      rcases Nat.eq_zero_or_pos n with q | q
      · subst q; decide
      · rw [show nI n - 1 = nI (n - 1) from pk_sub (a := n) (b := 1) (by omega), nI_toInt (by omega)]; omega
    omega
where fa_le9 (a b : Int32) : a ≤ b ↔ a.toInt ≤ b.toInt := Int32.le_iff_toInt_le
theorem ct_84 (hk : sgK σ m = (7, 24)) : ax_ok e0 mo 0 84 [aR m] σ (fun w σ2 => w = aI (sgI σ 7 23 m) ∧ σ2 = σ) := sg_84_0 ⟨ax_kd hk, rfl, rfl⟩
theorem ct_86 (hk : sgK σ m = (7, 24)) (b : Bool) : ax_ok e0 mo 0 86 [aR m, aI (bI b)] σ (fun w σ2 => w = aI (bI b) ∧ σ2 = putI σ 7 23 m (if b then 0 else 1)) := by
  refine sg_86_0 ?_
  cases b
  · exact ⟨fun _ => ⟨ax_kd hk, Or.inl rfl, rfl, rfl⟩, fun h => absurd rfl h⟩
  · exact ⟨fun h => absurd h (by decide), fun _ => ⟨ax_kd hk, Or.inr rfl, rfl, rfl⟩⟩
theorem ct_89 (hk : sgK σ m = (7, 24)) (v : Int32) : ax_ok e0 mo 0 89 [aR m, aI v] σ (fun w σ2 => w = aI v ∧ σ2 = putI σ 7 23 m 0) := sg_89_0 ⟨ax_kd hk, rfl, rfl⟩
theorem ct_87 (hk : sgK σ m = (7, 24)) (b c : Bool) : ax_ok e0 mo 0 87 [aR m, aI (bI b), aI (bI c)] σ (fun w σ2 => w = aI (bI (b && c)) ∧ σ2 = putI σ 7 23 m (if b then (if c then 0 else 2) else 1)) := by
  have e : ∀ v : Int32, sgI (putI σ 7 23 m v) 7 23 m = v := fun v => if_pos ⟨rfl, rfl, rfl⟩
  refine sg_87_0 ?_
  cases b
  · exact ⟨fun _ => ⟨ax_kd hk, ax_kd hk, fun h => absurd ((e 1).symm.trans h) (by decide), fun _ => ⟨Or.inl rfl, rfl, rfl⟩⟩, fun h => absurd rfl h⟩
  · cases c
    · exact ⟨fun h => absurd h (by decide), fun _ => ⟨fun _ => ⟨ax_kd hk, ax_kd hk, fun h => absurd ((e 2).symm.trans h) (by decide), fun _ => ⟨Or.inl rfl, rfl, rfl⟩⟩, fun h => absurd rfl h⟩⟩
    · exact ⟨fun h => absurd h (by decide), fun _ => ⟨fun h => absurd h (by decide), fun _ => ⟨ax_kd hk, ax_kd hk, fun _ => ⟨Or.inr rfl, rfl, rfl⟩, fun h => absurd (e 0) h⟩⟩⟩
theorem ct_88 (hk : sgK σ m = (7, 24)) (b c d : Bool) : ax_ok e0 mo 0 88 [aR m, aI (bI b), aI (bI c), aI (bI d)] σ (fun w σ2 => w = aI (bI (b && c && d)) ∧ σ2 = putI σ 7 23 m (if b then (if c then (if d then 0 else 3) else 2) else 1)) := by
  have e : ∀ v : Int32, sgI (putI σ 7 23 m v) 7 23 m = v := fun v => if_pos ⟨rfl, rfl, rfl⟩
  refine sg_88_0 ?_
  cases b
  · exact ⟨fun _ => ⟨ax_kd hk, ax_kd hk, fun h => absurd ((e 1).symm.trans h) (by decide), fun _ => ⟨Or.inl rfl, rfl, rfl⟩⟩, fun h => absurd rfl h⟩
  · cases c
    · exact ⟨fun h => absurd h (by decide), fun _ => ⟨fun _ => ⟨ax_kd hk, ax_kd hk, fun h => absurd ((e 2).symm.trans h) (by decide), fun _ => ⟨Or.inl rfl, rfl, rfl⟩⟩, fun h => absurd rfl h⟩⟩
    · cases d
      · exact ⟨fun h => absurd h (by decide), fun _ => ⟨fun h => absurd h (by decide), fun _ => ⟨fun _ => ⟨ax_kd hk, ax_kd hk, fun h => absurd ((e 3).symm.trans h) (by decide), fun _ => ⟨Or.inl rfl, rfl, rfl⟩⟩, fun h => absurd rfl h⟩⟩⟩
      · exact ⟨fun h => absurd h (by decide), fun _ => ⟨fun h => absurd h (by decide), fun _ => ⟨fun h => absurd h (by decide), fun _ => ⟨ax_kd hk, ax_kd hk, fun _ => ⟨Or.inr rfl, rfl, rfl⟩, fun h => absurd (e 0) h⟩⟩⟩⟩
theorem nb_ne {a b : Nat} (h : a ≠ b) : Nat.beq a b = false := by
  cases q : Nat.beq a b with
  | false => rfl
  | true => exact absurd (ax_beq q) h
/-- a row of numbers of the reference -/
theorem rm_row (h : ax_rm σ m M A) {i : Nat} (hi : ax_mr i) : sgR σ 7 i m = M i ∧ sgK σ (M i) = ax_md i := h.1.2.1 i hi
theorem mr_of {i : Nat} (h1 : i < 22) (h2 : i ≠ 0) (h3 : i ≠ 10) (h4 : i ≠ 19) : ax_mr i := ⟨h1, h2, h3, h4⟩
theorem ct_90 (h : ax_rm σ m M A) (x : Int32) : ax_ok e0 mo 1 90 [aR m, aI x] σ (fun w σ2 => w = aI (bI (decide ((0 : Int32) ≤ x ∧ x ≤ nI (mN A) - 1))) ∧ σ2 = σ) := by
  refine sg_90_0 (d := 0) ⟨ax_kd h.1.1, ?_⟩
  rw [h.2.1.1]
  refine ax_use0 (ct_85 x 0 (nI (mN A) - 1)) rfl ?_
  exact sg_90_11 (d := 0) ⟨bI01 _, rfl, rfl⟩
theorem ct_120 (h : ax_rm σ m M A) (x : Int32) : ax_ok e0 mo 1 120 [aR m, aI x] σ (fun w σ2 => w = aI (bI (decide ((0 : Int32) ≤ x ∧ x ≤ nI (mR A) - 1))) ∧ σ2 = σ) := by
  refine sg_120_0 (d := 0) ⟨ax_kd h.1.1, ?_⟩
  rw [h.2.1.2.1]
  refine ax_use0 (ct_85 x 0 (nI (mR A) - 1)) rfl ?_
  exact sg_120_11 (d := 0) ⟨bI01 _, rfl, rfl⟩
theorem ct_134 (x : Int32) : ax_ok e0 mo 1 134 [aI x] σ (fun w σ2 => w = aI (bI (decide ((0 : Int32) ≤ x ∧ x ≤ 3))) ∧ σ2 = σ) := by
  refine sg_134_0 (d := 0) ?_
  refine ax_use0 (ct_85 x 0 3) rfl ?_
  exact sg_134_6 (d := 0) ⟨bI01 _, rfl, rfl⟩
theorem ct_91 (h : ax_rm σ m M A) (hI : mB A) : ax_ok e0 mo 0 91 [aR m] σ (fun w σ2 => w = aI (nI (mGo A)) ∧ σ2 = σ) := by
  obtain ⟨⟨hN, hR⟩, -, -, -, hU, -⟩ := hI
  obtain ⟨g1, g2⟩ := rm_row h (i := 11) (mr_of (by decide) (by decide) (by decide) (by decide))
  refine sg_91_0 ?_
  refine ax_down (N := mR A) (fun i => ax_wp e0 mo 0 91 (4, [aR m, aI (nI (ax_n (mGb A) i)), aI (nI i)], []) σ _) ?_ (fun i hi ih => ?_) 0 (Nat.zero_le _)
  · refine sg_91_4 ⟨ax_kd h.1.1, ?_⟩
    rw [h.2.1.2.1]
    exact ⟨fun q => absurd q (nI_nlt (Nat.le_refl _) (by omega)), fun _ => ⟨rfl, rfl⟩⟩
  · refine sg_91_4 ⟨ax_kd h.1.1, ?_⟩
    rw [h.2.1.2.1, g1, nI_clamp (by omega), (h.2.2.2.1 i hi).1]
    have hs : mU A 11 i < 11 := by have := (hU i hi).1; omega
    have l7 : (7 : Int32) = nI 7 := rfl
    have l8 : (8 : Int32) = nI 8 := rfl
    rw [l7, l8, nI_1, nI_1, show nI (ax_n (mGb A) i) + 0 = nI (ax_n (mGb A) i) from nI_add _ 0]
    refine ⟨fun _ => ⟨ax_kd h.1.1, ax_in_nI (n := 80) g2 (by omega) (by decide), fun q => ?_, fun q => ⟨ax_kd h.1.1, ax_in_nI (n := 80) g2 (by omega) (by decide), fun q2 => ?_, fun q2 => ?_⟩⟩, fun q => absurd (nI_lt hi (by omega)) q⟩
    · have e : mGb A i = true := by unfold mGb; rw [(nI_eq (by omega) (by omega)).mp q]; rfl
      rw [ax_n_yes e] at ih; exact ih
    · have e : mGb A i = true := by unfold mGb; rw [(nI_eq (by omega) (by omega)).mp q2]; rfl
      rw [ax_n_yes e] at ih; exact ih
    · have e : mGb A i = false := by
        unfold mGb
        rw [Bool.or_eq_false_iff]
        exact ⟨nb_ne fun z => q (by rw [z]), nb_ne fun z => q2 (by rw [z])⟩
      rw [ax_n_no e] at ih; exact ih
end
end AXMD
