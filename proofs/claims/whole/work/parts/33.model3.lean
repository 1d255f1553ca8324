/-! What the reference writes of jobs, the queue and the workers. -/
section AXMF
/-- one number of the state changed -/
def mUp (A : MS) (f r k j v : Nat) : MS := (fun f' r' k' j' => if f' = f ∧ r' = r ∧ k' = k ∧ j' = j then v else A.1 f' r' k' j', A.2)
theorem mUp_at (A : MS) (f r k j v : Nat) : (mUp A f r k j v).1 f r k j = v := if_pos ⟨rfl, rfl, rfl, rfl⟩
theorem mUp_f (A : MS) {f r k j v f' : Nat} (h : f' ≠ f) (r' k' j' : Nat) : (mUp A f r k j v).1 f' r' k' j' = A.1 f' r' k' j' := if_neg fun z => h z.1
theorem mUp_ne (A : MS) {f r k j v f' r' k' j' : Nat} (h : ¬ (r' = r ∧ k' = k ∧ j' = j)) : (mUp A f r k j v).1 f' r' k' j' = A.1 f' r' k' j' := if_neg fun z => h z.2
section
variable {e0 mo : Nat} {σ : SG} {m : Nat} {M : Nat → Nat} {A : MS} {r k j : Nat}
theorem mNeeds_cong {A A' : MS} (h : ∀ k, mP A' 4 r k = mP A 4 r k) : ∀ n, mNeeds A' r n = mNeeds A r n := by
  intro n
  induction n with
  | zero => rfl
  | succ n ih => unfold mNeeds; rw [ih, h]
theorem mWell_cong {A A' : MS} (h : ∀ j, mJ A' 0 r k j = mJ A 0 r k j) (h8 : mP A' 8 r k = mP A 8 r k) : mWell A' r k = mWell A r k := by
  unfold mWell
  congr 1
  funext j
  rw [h, h8]
theorem mGoods_cong {A A' : MS} (h : ∀ k j, mJ A' 0 r k j = mJ A 0 r k j) (h8 : ∀ k, mP A' 8 r k = mP A 8 r k) : ∀ n, mGoods A' r n = mGoods A r n := by
  intro n
  induction n with
  | zero => rfl
  | succ n ih => unfold mGoods; rw [ih, mWell_cong (h n) (h8 n)]
/-- a job's number changed, of a run that goes on -/
theorem rm_jup (h : ax_rm σ m M A) (hr : r < mR A) (hk : k < 8) (hj : j < 16) (hG : mG A r) {f v : Nat} (hf : f < 4) : ax_rm (putI σ 20 (pl r k j) (M 17) (nI (mC (mUp A (40 + f) r k j v) r k j))) m M (mUp A (40 + f) r k j v) := by
  obtain ⟨h0, h1, h2, h3, h4, h5, h6, h7, h8, h9⟩ := h
  have key : ∀ f' r' k' j', f' < 40 ∨ 43 < f' → (mUp A (40 + f) r k j v).1 f' r' k' j' = A.1 f' r' k' j' := fun f' r' k' j' hf' => mUp_f A (by omega) r' k' j'
  have eU : ∀ f r', 11 ≤ f → f ≤ 16 → mU (mUp A (40 + _) r k j v) f r' = mU A f r' := fun f r' a b => key f r' 0 0 (by omega)
  have eR : mR (mUp A (40 + f) r k j v) = mR A := key 10 0 0 0 (by omega)
  have ne17 : ∀ i, ax_mr i → i ≠ 17 → M i ≠ M 17 := fun i a b c => b (h0.2.2 i 17 a (mr_of (by decide) (by decide) (by decide) (by decide)) c)
  have eG : ∀ r', mG (mUp A (40 + f) r k j v) r' ↔ mG A r' := fun r' => by unfold mG; rw [eU 11 r' (by omega) (by omega)]
  have oth : ∀ r' k' j', ¬ (r' = r ∧ k' = k ∧ j' = j) → ∀ f', (mUp A (40 + f) r k j v).1 f' r' k' j' = A.1 f' r' k' j' := fun r' k' j' a f' => mUp_ne A a
  refine ⟨h0, ⟨h1.1.trans (by rw [show mN (mUp A (40 + f) r k j v) = mN A from key 0 0 0 0 (by omega)]), h1.2.1.trans (by rw [eR]), h1.2.2.1, h1.2.2.2⟩, fun f' k' a b c => ?_, fun r' hr' => ?_, fun r' hr' => ?_, fun r' hr' hg hx => ?_, fun r' k' j' hr' hk' hj' => ?_, fun i hi => ?_, fun w hw => ?_, fun i hi => ?_⟩
  · rw [gI_putI, if_neg (fun z => by
      rcases Nat.lt_or_ge f' 7 with q | q
      · exact ne17 f' (mr_of (by omega) (by omega) (by omega) (by omega)) (by omega) z.2.2
      · have := z.1; rw [if_neg (by omega)] at this; omega), show mS (mUp A (40 + f) r k j v) f' k' = mS A f' k' from key f' k' 0 0 (by omega)]
    exact h2 f' k' a b c
  · rw [eR] at hr'
    obtain ⟨d1, d2, d3, d4⟩ := h3 r' hr'
    have n1 := ne17 11 (mr_of (by decide) (by decide) (by decide) (by decide)) (by decide)
    have n2 := ne17 12 (mr_of (by decide) (by decide) (by decide) (by decide)) (by decide)
    have n3 := ne17 13 (mr_of (by decide) (by decide) (by decide) (by decide)) (by decide)
    have n4 := ne17 14 (mr_of (by decide) (by decide) (by decide) (by decide)) (by decide)
    unfold mInp at d3 ⊢
    rw [gI_putI, if_neg (fun z => n1 z.2.2), gI_putI, if_neg (fun z => n2 z.2.2), gI_putI, if_neg (fun z => n3 z.2.2), gI_putI, if_neg (fun z => n4 z.2.2), eU 11 r' (by omega) (by omega), eU 12 r' (by omega) (by omega), eU 13 r' (by omega) (by omega), eU 14 r' (by omega) (by omega), eU 15 r' (by omega) (by omega), eU 16 r' (by omega) (by omega)]
    exact ⟨d1, d2, d3, d4⟩
  · rw [eR] at hr'
    rw [eU 16 r' (by omega) (by omega), mNeeds_cong (A := A) (fun k' => key 24 r' k' 0 (by omega))]
    exact h4 r' hr'
  · rw [eR] at hr'
    rw [eG] at hg
    have hne : r' ≠ r := fun z => hg (by rw [z]; exact hG)
    rw [gI_putI, if_neg (fun z => ne17 16 (mr_of (by decide) (by decide) (by decide) (by decide)) (by decide) z.2.2), eU 16 r' (by omega) (by omega), mGoods_cong (A := A) (fun k' j' => oth r' k' j' (fun z => hne z.1) 40) (fun k' => key 28 r' k' 0 (by omega))]
    rw [key 60 0 0 0 (by omega)] at hx
    exact h5 r' hr' hg hx
  · rw [eR] at hr'
    rw [gI_putI]
    by_cases q : r' = r ∧ k' = k ∧ j' = j
    · obtain ⟨rfl, rfl, rfl⟩ := q
      rw [if_pos ⟨rfl, rfl, rfl⟩]
    · rw [if_neg (fun z => q (by have z1 : 128 * r' + 16 * k' + j' = 128 * r + 16 * k + j := z.2.1; omega))]
      have e := h6 r' k' j' hr' hk' hj'
      rw [e]
      unfold mC
      rw [show mJ (mUp A (40 + f) r k j v) 0 r' k' j' = mJ A 0 r' k' j' from oth r' k' j' q 40, show mJ (mUp A (40 + f) r k j v) 1 r' k' j' = mJ A 1 r' k' j' from oth r' k' j' q 41, show mJ (mUp A (40 + f) r k j v) 2 r' k' j' = mJ A 2 r' k' j' from oth r' k' j' q 42, show mJ (mUp A (40 + f) r k j v) 3 r' k' j' = mJ A 3 r' k' j' from oth r' k' j' q 43]
  · rw [gI_putI, if_neg (fun z => ne17 18 (mr_of (by decide) (by decide) (by decide) (by decide)) (by decide) z.2.2)]
    exact h7 i hi
  · rw [gI_putI, if_neg (fun z => ne17 20 (mr_of (by decide) (by decide) (by decide) (by decide)) (by decide) z.2.2), show mW (mUp A (40 + f) r k j v) w = mW A w from key 50 w 0 0 (by omega)]
    exact h8 w hw
  · rw [gI_putI, if_neg (fun z => ne17 21 (mr_of (by decide) (by decide) (by decide) (by decide)) (by decide) z.2.2)]
    exact h9 i hi
end
end AXMF
