/-! What the reference writes of jobs, the queue and the workers. -/
section AXMF
/-- one number of the state changed -/
def mUp (A : MS) (f r k j v : Nat) : MS := (fun f' r' k' j' => if f' = f ∧ r' = r ∧ k' = k ∧ j' = j then v else A.1 f' r' k' j', A.2)
theorem mUp_at (A : MS) (f r k j v : Nat) : (mUp A f r k j v).1 f r k j = v := if_pos ⟨rfl, rfl, rfl, rfl⟩
theorem mUp_f (A : MS) {f r k j v f' : Nat} (h : f' ≠ f) (r' k' j' : Nat) : (mUp A f r k j v).1 f' r' k' j' = A.1 f' r' k' j' := if_neg fun z => h z.1
theorem mUp_ne (A : MS) {f r k j v f' r' k' j' : Nat} (h : ¬ (r' = r ∧ k' = k ∧ j' = j)) : (mUp A f r k j v).1 f' r' k' j' = A.1 f' r' k' j' := if_neg fun z => h z.2
section
variable {e0 mo : Nat} {σ : SG} {m : Nat} {M : Nat → Nat} {A : MS} {r k j : Nat}
theorem mNeeds_cong {A A' : MS} (h : ∀ k, mP A' 4 r k = mP A 4 r k) : ∀ n, mNeeds A' r n = mNeeds A r n := by
  intro n
  induction n with
  | zero => rfl
  | succ n ih => unfold mNeeds; rw [ih, h]
theorem mWell_cong {A A' : MS} (h : ∀ j, mJ A' 0 r k j = mJ A 0 r k j) (h8 : mP A' 8 r k = mP A 8 r k) : mWell A' r k = mWell A r k := by
  unfold mWell
  congr 1
  funext j
  rw [h, h8]
theorem mGoods_cong {A A' : MS} (h : ∀ k j, mJ A' 0 r k j = mJ A 0 r k j) (h8 : ∀ k, mP A' 8 r k = mP A 8 r k) : ∀ n, mGoods A' r n = mGoods A r n := by
  intro n
  induction n with
  | zero => rfl
  | succ n ih => unfold mGoods; rw [ih, mWell_cong (h n) (h8 n)]
end
end AXMF
