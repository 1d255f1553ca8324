/-! The law's setting of marks, on both objects. -/
section AXMK
def mx (m : Int32) : Bool := decide (m - m / 2 * 2 = 0)
def my (m : Int32) : Bool := decide ((m / 2) - (m / 2) / 2 * 2 = 0)
def mz (m : Int32) : Bool := decide ((m / 4) - (m / 4) / 2 * 2 = 0)
def oMk (A : MS) (u m : Int32) : OC := oSetMarks A u (mx m) (my m) (mz m)
/-- 1 where the marks were set -/
def mn (o : OC) : Int32 := if o.1.1 = 0 then 1 else 0
section
variable {e0 ms mo scr len a b pa : Nat} {p q : Nat → Nat} {τ : SG} {A B : MS} {n Z U : Nat} {ws : List Nat}
theorem cw_174 (h : jj e0 ms mo τ a b A B ws Z U) (hl : lwA A n) (u m : Int32) : ax_ok e0 mo 8 174 [aR a, aI u, aI m] τ (fun w τ2 => w = aI (mn (oMk A u m)) ∧ jj e0 ms mo τ2 a b (oMk A u m).2 B ws (Z + 390) (U + 6000) ∧ jK τ τ2 ws) := by
  have key : ∀ x y z : Bool, x = mx m → y = my m → z = mz m → ax_wp e0 mo 7 37 (0, ax_entry 37 [aR a, aI u, aI (bI x), aI (bI y), aI (bI z)], []) τ (ax_ct (fun v σ2 => ax_wp e0 mo 8 174 (42, [aR a, aI u, aI m, aU], ax_push v []) σ2 (ax_ct (fun w τ2 => w = aI (mn (oMk A u m)) ∧ jj e0 ms mo τ2 a b (oMk A u m).2 B ws (Z + 390) (U + 6000) ∧ jK τ τ2 ws) (fun _ _ => False))) (fun E σ2 => ax_exc 174 39 (ax_ct (fun w τ2 => w = aI (mn (oMk A u m)) ∧ jj e0 ms mo τ2 a b (oMk A u m).2 B ws (Z + 390) (U + 6000) ∧ jK τ τ2 ws) (fun _ _ => False)) E σ2)) := by
    intro x y z hx hy hz
    have ho : oSetMarks A u x y z = oMk A u m := by rw [hx, hy, hz]; rfl
    have c := jj_pu ss_cks (is := [u, bI x, bI y, bI z]) h (fun σ x' L rc he => ct_37 (mo := ms) rc hl.1 u x y z)
    refine ax_useX c rfl (fun v σ2 hv => ?_) (fun E σ2 hE => ?_)
    · obtain ⟨h0, rfl, h1, k⟩ := hv
      rw [ho] at h0 h1
      refine sg_174_42 (d := 7) ⟨Or.inr rfl, ?_, h1, k⟩
      rw [show mn (oMk A u m) = 1 from if_pos h0]
    · obtain ⟨h0, rfl, h1, k⟩ := hE
      have hle := oSetMarks_le A u x y z
      have hex := oSetMarks_ex A u x y z h0
      rw [ho] at h0 hle hex ⊢
      have e : ax_exc 174 39 (ax_ct (fun w τ2 => w = aI (mn (oMk A u m)) ∧ jj e0 ms mo τ2 a b (oMk A u m).2 B ws (Z + 390) (U + 6000) ∧ jK τ τ2 ws) (fun _ _ => False)) (([0, 2] : List Nat).getD ((oMk A u m).1.1 - 1) 9) σ2 = (aI 0 = aI (mn (oMk A u m)) ∧ jj e0 ms mo σ2 a b (oMk A u m).2 B ws (Z + 390) (U + 6000) ∧ jK τ σ2 ws) := by
        have e2 : (oMk A u m).1.1 - 1 = 0 ∨ (oMk A u m).1.1 - 1 = 1 := by omega
        rcases e2 with e2 | e2
        · rw [e2]; rfl
        · rw [e2]; rfl
      rw [e, show mn (oMk A u m) = 0 from if_neg (by omega), hex]
      exact ⟨rfl, jj_le h1 (by omega) (by omega), k⟩
  have k := jj_kd h
  refine sg_174_0 (d := 7) ⟨by decide, fun h1 => ⟨by decide, by decide, fun h2 => ⟨by decide, by decide, fun h3 => ⟨k, ?_⟩, fun h3 => ⟨k, ?_⟩⟩, fun h2 => ⟨by decide, by decide, fun h3 => ⟨k, ?_⟩, fun h3 => ⟨k, ?_⟩⟩⟩, fun h1 => ⟨by decide, by decide, fun h2 => ⟨by decide, by decide, fun h3 => ⟨k, ?_⟩, fun h3 => ⟨k, ?_⟩⟩, fun h2 => ⟨by decide, by decide, fun h3 => ⟨k, ?_⟩, fun h3 => ⟨k, ?_⟩⟩⟩⟩
  · exact key true true true (decide_eq_true h1).symm (decide_eq_true h2).symm (decide_eq_true h3).symm
  · exact key true true false (decide_eq_true h1).symm (decide_eq_true h2).symm (decide_eq_false h3).symm
  · exact key true false true (decide_eq_true h1).symm (decide_eq_false h2).symm (decide_eq_true h3).symm
  · exact key true false false (decide_eq_true h1).symm (decide_eq_false h2).symm (decide_eq_false h3).symm
  · exact key false true true (decide_eq_false h1).symm (decide_eq_true h2).symm (decide_eq_true h3).symm
  · exact key false true false (decide_eq_false h1).symm (decide_eq_true h2).symm (decide_eq_false h3).symm
  · exact key false false true (decide_eq_false h1).symm (decide_eq_false h2).symm (decide_eq_true h3).symm
  · exact key false false false (decide_eq_false h1).symm (decide_eq_false h2).symm (decide_eq_false h3).symm
theorem lf_mk (h : lv e0 ms mo scr len a b pa p q τ A n Z U) (u m : Int32) : ax_ok e0 mo 8 174 [aR a, aI u, aI m] τ (fun w τ2 => w = aI (mn (oMk A u m)) ∧ lx e0 ms mo scr len a b pa p q τ2 A (oMk A u m).2 n (Z + 390) (U + 6000)) := by
  refine ax_okw (cw_174 h.1 h.2.1 u m) fun w τ2 hw => ?_
  obtain ⟨rfl, h1, k⟩ := hw
  exact ⟨rfl, h1, lw_setMarks h.2.1 u _ _ _, h.2.2.1, lK k h.2.2.2⟩
theorem ls_mk {u m : Int32} (h : lx e0 ms mo scr len a b pa p q τ A (oMk A u m).2 n Z U) : ax_ok e0 mo 8 174 [aR b, aI u, aI m] τ (fun w τ2 => w = aI (mn (oMk A u m)) ∧ lv e0 ms mo scr len a b pa p q τ2 (oMk A u m).2 (n + 1) (Z + 390) (U + 6000)) := by
  refine ax_okw (cw_174 (jj_swap h.1) h.2.2.1 u m) fun w τ2 hw => ?_
  obtain ⟨rfl, h1, k⟩ := hw
  have hl := lw_setMarks h.2.2.1 u (mx m) (my m) (mz m)
  have e : oMk (pm q A) u m = opm q (oMk A u m) := op_setMarks u _ _ _
  have hl : lwA (oMk (pm q A) u m).2 (n + 1) := hl
  rw [e] at h1 hl ⊢
  exact ⟨rfl, jj_swap h1, h.2.1, hl, lK k h.2.2.2⟩
end
end AXMK
