/-! The tables' kinds are as the simulation wants them: by computation. -/
section AXSK
noncomputable def ss_chk (y : Nat) : Bool := (List.range (ax_len y)).all (fun pc => match ax_code y pc with
  | none => true
  | some en => ss_e en)
set_option maxRecDepth 100000 in
theorem ss_k0 : (List.range 61).all (fun i => ss_chk (0 + i)) = true := by decide +kernel
set_option maxRecDepth 100000 in
theorem ss_k1 : (List.range 61).all (fun i => ss_chk (61 + i)) = true := by decide +kernel
set_option maxRecDepth 100000 in
theorem ss_k2 : (List.range 73).all (fun i => ss_chk (122 + i)) = true := by decide +kernel
set_option maxRecDepth 100000 in
theorem ss_k3 : ss_chk 195 = true := by decide +kernel
theorem ss_kS {lo n : Nat} (h : (List.range n).all (fun i => ss_chk (lo + i)) = true) {y : Nat} (h1 : lo ≤ y) (h2 : y < lo + n) : ss_chk y = true := by
  have := List.all_eq_true.mp h (y - lo) (List.mem_range.mpr (by omega))
  rwa [show lo + (y - lo) = y by omega] at this
theorem ss_cks : ∀ y pc en, ax_code y pc = some en → ss_e en = true := by
  intro y pc en h
  have h0 := h
  unfold ax_code at h
  cases q : Nat.blt y 196 with
  | false => rw [q] at h; cases h
  | true =>
    have hy := Nat.blt_eq.mp q
    rw [q] at h
    cases q2 : Nat.blt pc (ax_len y) with
    | false => rw [q2] at h; cases h
    | true =>
      have hc : ss_chk y = true := by
        by_cases g0 : y < 61
        · exact ss_kS ss_k0 (by omega) (by omega)
        by_cases g1 : y < 122
        · exact ss_kS ss_k1 (by omega) (by omega)
        by_cases g2 : y < 195
        · exact ss_kS ss_k2 (by omega) (by omega)
        obtain rfl : y = 195 := by omega
        exact ss_k3
      have hp := List.all_eq_true.mp hc pc (List.mem_range.mpr (Nat.blt_eq.mp q2))
      rw [h0] at hp
      exact hp
end AXSK
