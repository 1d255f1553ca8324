/-! The reference's calls give numbers; marks. -/
section AXINT2
noncomputable def ok_at (y pc : Nat) : Bool := match ax_code y pc with
  | none => true
  | some en => in_ok en.1
theorem me_ok_of {y : Nat} (h : (List.range (ax_len y)).all (ok_at y) = true) : me_ok y := by
  intro pc en hc
  by_cases hl : pc < ax_len y
  · have := List.all_eq_true.mp h pc (List.mem_range.mpr hl)
    unfold ok_at at this
    rw [hc] at this
    exact this
  · exfalso
    have e : ax_code y pc = none := by
      unfold ax_code
      rw [not_true_b (b := Nat.blt pc (ax_len y)) (fun z => hl (Nat.blt_eq.mp z))]
      cases Nat.blt y 196 <;> rfl
    rw [e] at hc
    cases hc
theorem me_92 : me_ok 92 := me_ok_of rfl
theorem me_95 : me_ok 95 := me_ok_of rfl
theorem me_97 : me_ok 97 := me_ok_of rfl
theorem me_98 : me_ok 98 := me_ok_of rfl
theorem me_100 : me_ok 100 := me_ok_of rfl
theorem me_101 : me_ok 101 := me_ok_of rfl
theorem me_102 : me_ok 102 := me_ok_of rfl
set_option maxRecDepth 20000 in
theorem me_119 : me_ok 119 := me_ok_of rfl
theorem me_121 : me_ok 121 := me_ok_of rfl
theorem me_122 : me_ok 122 := me_ok_of rfl
theorem me_123 : me_ok 123 := me_ok_of rfl
theorem me_125 : me_ok 125 := me_ok_of rfl
theorem me_126 : me_ok 126 := me_ok_of rfl
theorem me_127 : me_ok 127 := me_ok_of rfl
theorem me_129 : me_ok 129 := me_ok_of rfl
theorem me_130 : me_ok 130 := me_ok_of rfl
theorem me_131 : me_ok 131 := me_ok_of rfl
theorem me_132 : me_ok 132 := me_ok_of rfl
theorem me_133 : me_ok 133 := me_ok_of rfl
theorem me_135 : me_ok 135 := me_ok_of rfl
theorem me_137 : me_ok 137 := me_ok_of rfl
theorem me_139 : me_ok 139 := me_ok_of rfl
theorem me_140 : me_ok 140 := me_ok_of rfl
theorem me_141 : me_ok 141 := me_ok_of rfl
theorem me_148 : me_ok 148 := me_ok_of rfl
theorem me_149 : me_ok 149 := me_ok_of rfl
theorem me_150 : me_ok 150 := me_ok_of rfl
section
variable {e0 mo : Nat} {σ : SG} {x : Nat} {L : LY} {A : MS} {ou t : Nat}
/-- what the call that gives nothing leaves -/
def wr_pu (e0 : Nat) (σ : SG) (x : Nat) (L : LY) (ou : Nat) (o : OC) : AV → SG → Prop := fun w σ2 => w = aI (nI o.1.1) ∧ ∃ L', ax_rc e0 σ2 x L' o.2 ∧ ax_F (fun k i q => cW k i q ∨ (k = 22 ∧ q = ou)) σ σ2 ∧ sgZ σ2 + lRho L ≤ sgZ σ + lRho L' + 390 ∧ sgU σ2 + 4 * lRho L ≤ sgU σ + 4 * lRho L' + 6000
theorem oSetMarks_le (A : MS) (u : Int32) (f c i : Bool) : (oSetMarks A u f c i).1.1 ≤ 2 := by
  unfold oSetMarks
  repeat' apply oc_if
  all_goals first | exact Nat.zero_le _ | exact Nat.succ_le_succ (Nat.zero_le _) | exact Nat.succ_le_succ (Nat.succ_le_succ (Nat.zero_le _))
theorem oSetMarks_ex (A : MS) (u : Int32) (f c i : Bool) : 1 ≤ (oSetMarks A u f c i).1.1 → (oSetMarks A u f c i).2 = A := by
  unfold oSetMarks
  repeat' apply oc_ex
  all_goals first | exact fun _ => rfl | exact fun z => absurd z (Nat.not_succ_le_zero _)
theorem ct_175 (h : ax_rc e0 σ x L A) (hJJ : mJJ A) (u : Int32) (f c i : Bool) : ax_ok e0 mo 8 175 [aR x, aI u, aI (bI f), aI (bI c), aI (bI i)] σ (wr_pu e0 σ x L ou (oSetMarks A u f c i)) := by
  refine sg_175_0 (d := 7) ⟨ax_kd (xf h).1, ax_useX (ct_37 h hJJ u f c i) rfl (fun v σ2 hv => ?_) (fun E σ2 hE => ?_)⟩
  · obtain ⟨h0, rfl, L', h2, f2⟩ := hv
    exact sg_175_9 (d := 7) ⟨by rw [h0]; rfl, L', h2, f2.1.mono fun _ _ _ _ z => Or.inl z, f2.2.1, f2.2.2⟩
  · obtain ⟨h1, rfl, rfl⟩ := hE
    have h2 := oSetMarks_le A u f c i
    have hx : ∀ j, j < 2 → ax_h 175 6 (([0, 2] : List Nat).getD j 9) = some (nI (j + 1)) := fun j hj => by
      have e : j = 0 ∨ j = 1 := by omega
      rcases e with rfl | rfl <;> rfl
    unfold ax_exc
    rw [hx ((oSetMarks A u f c i).1.1 - 1) (by omega), show (oSetMarks A u f c i).1.1 - 1 + 1 = (oSetMarks A u f c i).1.1 by omega]
    obtain ⟨w1, L', w2, -, w4, w5, w6⟩ := wr_thr (ou := ou) (vl := fun v => v.toInt64) h h1 (oSetMarks_ex A u f c i h1)
    exact ⟨w1, L', w2, w4, w5, w6⟩
end
end AXINT2
