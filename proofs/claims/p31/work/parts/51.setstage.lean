/-! The reference's setStage. -/
section AXMY
theorem filte_take {k : Nat} {q : List (Nat × Nat)} {i : Nat} (hi : i < q.length) : (q.take (i + 1)).filter (fun e => !(Nat.beq e.1 k)) = (q.take i).filter (fun e => !(Nat.beq e.1 k)) ++ (if (q.getD i (0, 0)).1 = k then [] else [q.getD i (0, 0)]) := by
  have e : q.getD i (0, 0) = q[i] := by rw [List.getD_eq_getElem?_getD, List.getElem?_eq_getElem hi]; rfl
  rw [List.take_add_one, List.getElem?_eq_getElem hi, List.filter_append, e]
  congr 1
  by_cases z : q[i].1 = k
  · rw [if_pos z]
    simp [z, Nat.beq_refl]
  · rw [if_neg z]
    simp [nb_ne z]
theorem filte_le {k : Nat} {q : List (Nat × Nat)} (i : Nat) : ((q.take i).filter (fun e => !(Nat.beq e.1 k))).length ≤ i := Nat.le_trans (List.length_filter_le _ _) (by rw [List.length_take]; omega)
theorem getDe_snoc (F : List (Nat × Nat)) (y : Nat × Nat) : (F ++ [y]).getD F.length (0, 0) = y := by
  rw [List.getD_eq_getElem?_getD, List.getElem?_append_right (Nat.le_refl _), Nat.sub_self]
  rfl
theorem getDe_app {F : List (Nat × Nat)} {y : Nat × Nat} {x : Nat} (h : x < F.length) : (F ++ [y]).getD x (0, 0) = F.getD x (0, 0) := by
  rw [List.getD_eq_getElem?_getD, List.getElem?_append_left h, ← List.getD_eq_getElem?_getD]
theorem in02_yes {x : Int32} (h : in02 x = true) : ∃ n, n ≤ 2 ∧ x = nI n := by
  obtain ⟨i, hi, rfl⟩ := inB_yes (n := 3) (x := x) h (by decide)
  exact ⟨i, by omega, rfl⟩
theorem in03_yes {x : Int32} (h : in03 x = true) : ∃ n, n ≤ 3 ∧ x = nI n := by
  obtain ⟨i, hi, rfl⟩ := inB_yes (n := 4) (x := x) h (by decide)
  exact ⟨i, by omega, rfl⟩
section
variable {e0 mo : Nat} {σ σ1 : SG} {m : Nat} {M : Nat → Nat} {A : MS} {r k j p w : Nat}
end
end AXMY
