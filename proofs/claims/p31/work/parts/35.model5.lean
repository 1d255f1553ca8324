/-! The reference's writing methods on jobs and the queue. -/
section AXMH
section
variable {e0 mo : Nat} {σ : SG} {m : Nat} {M : Nat → Nat} {A : MS} {r k j : Nat}
theorem i32_acs (a b s : Int32) : (a + b) + (s - b) = a + s := by
  have e : (a + b) + (s - b) = (a + s + b) - b := by
    rw [Int32.sub_eq_add_neg, Int32.sub_eq_add_neg]
    ac_rfl
  rw [e, Int32.add_sub_cancel]
theorem mC_up0 (A : MS) (r k j s : Nat) : mC (mUp A 40 r k j s) r k j + mJ A 0 r k j = mC A r k j + s := by
  unfold mC
  rw [show mJ (mUp A 40 r k j s) 0 r k j = s from mUp_at A 40 r k j s, show mJ (mUp A 40 r k j s) 1 r k j = mJ A 1 r k j from mUp_f A (by decide) r k j, show mJ (mUp A 40 r k j s) 2 r k j = mJ A 2 r k j from mUp_f A (by decide) r k j, show mJ (mUp A 40 r k j s) 3 r k j = mJ A 3 r k j from mUp_f A (by decide) r k j]
  omega
theorem filt_take {p : Nat} {q : List Nat} {i : Nat} (hi : i < q.length) : (q.take (i + 1)).filter (fun x => !(Nat.beq x p)) = (q.take i).filter (fun x => !(Nat.beq x p)) ++ (if q.getD i 0 = p then [] else [q.getD i 0]) := by
  have e : q.getD i 0 = q[i] := by rw [List.getD_eq_getElem?_getD, List.getElem?_eq_getElem hi]; rfl
  rw [List.take_add_one, List.getElem?_eq_getElem hi, List.filter_append, e]
  congr 1
  by_cases z : q[i] = p
  · rw [if_pos z]
    simp [z, Nat.beq_refl]
  · rw [if_neg z]
    simp [nb_ne z]
theorem filt_le {p : Nat} {q : List Nat} (i : Nat) : ((q.take i).filter (fun x => !(Nat.beq x p))).length ≤ i := Nat.le_trans (List.length_filter_le _ _) (by rw [List.length_take]; omega)
theorem getD_snoc (F : List Nat) (y : Nat) : (F ++ [y]).getD F.length 0 = y := by
  rw [List.getD_eq_getElem?_getD, List.getElem?_append_right (Nat.le_refl _), Nat.sub_self]
  rfl
theorem getD_app {F : List Nat} {y x : Nat} (h : x < F.length) : (F ++ [y]).getD x 0 = F.getD x 0 := by
  rw [List.getD_eq_getElem?_getD, List.getElem?_append_left h, ← List.getD_eq_getElem?_getD]
end
end AXMH
