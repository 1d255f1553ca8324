/-! The law's calls on both objects, pair by pair. Printed by wip/p31/gen/gen84.py. -/
section AXPR
/-- the second object has what the first has, but for the workers' places -/
def lv (e0 ms mo scr len a b pa : Nat) (p q : Nat → Nat) (τ : SG) (A : MS) (n Z U : Nat) : Prop :=
  jj e0 ms mo τ a b A (pm q A) [pa, scr] Z U ∧ lwA A n ∧ lwA (pm q A) n ∧ sgK τ pa = (20, 4) ∧ (∀ w, w < 4 → sgI τ 20 w pa = nI (p w)) ∧ sgK τ scr = (25, len)
/-- between the two calls of a pair -/
def lx (e0 ms mo scr len a b pa : Nat) (p q : Nat → Nat) (τ : SG) (A A' : MS) (n Z U : Nat) : Prop :=
  jj e0 ms mo τ a b A' (pm q A) [pa, scr] Z U ∧ lwA A' (n + 1) ∧ lwA (pm q A) n ∧ sgK τ pa = (20, 4) ∧ (∀ w, w < 4 → sgI τ 20 w pa = nI (p w)) ∧ sgK τ scr = (25, len)
section
variable {e0 ms mo scr len a b pa : Nat} {p q : Nat → Nat} {τ τ2 : SG} {A A' : MS} {n Z U : Nat}
theorem lK (k : jK τ τ2 [pa, scr]) (h : sgK τ pa = (20, 4) ∧ (∀ w, w < 4 → sgI τ 20 w pa = nI (p w)) ∧ sgK τ scr = (25, len)) : sgK τ2 pa = (20, 4) ∧ (∀ w, w < 4 → sgI τ2 20 w pa = nI (p w)) ∧ sgK τ2 scr = (25, len) := by
  obtain ⟨k1, k2⟩ := k.2 pa List.mem_cons_self
  obtain ⟨k3, -⟩ := k.2 scr (List.mem_cons_of_mem _ List.mem_cons_self)
  exact ⟨k1.trans h.1, fun w hw => (k2 20 w).trans (h.2.1 w hw), k3.trans h.2.2⟩
theorem lv_kd (h : lv e0 ms mo scr len a b pa p q τ A n Z U) : (sgK τ a).1 = 6 := jj_kd h.1
theorem lv_kb (h : lv e0 ms mo scr len a b pa p q τ A n Z U) : (sgK τ b).1 = 6 := jj_kd (jj_swap h.1)
theorem lv_le (h : lv e0 ms mo scr len a b pa p q τ A n Z U) {Z' U' : Nat} (hZ : Z ≤ Z') (hU : U ≤ U') : lv e0 ms mo scr len a b pa p q τ A n Z' U' := ⟨jj_le h.1 hZ hU, h.2⟩
theorem lv_n (h : lv e0 ms mo scr len a b pa p q τ A n Z U) : lv e0 ms mo scr len a b pa p q τ A (n + 1) Z U := ⟨h.1, lw_up h.2.1, lw_up h.2.2.1, h.2.2.2⟩
theorem an_eq {o o' : OC} (h : o.1 = o'.1) : an o = an o' := by unfold an; rw [h]
theorem cs_eq {o o' : OC} (h : o.1 = o'.1) : cs o = cs o' := by unfold cs; rw [h]
theorem lf_add (h : lv e0 ms mo scr len a b pa p q τ A n Z U) (u : Int32) (v : Int32) : ax_ok e0 mo 8 171 [aR a, aI u, aI v] τ (fun ww τ2 => ww = aI (an (oAddStage A u v)) ∧ lx e0 ms mo scr len a b pa p q τ2 A (oAddStage A u v).2 n (Z + 390) (U + 6000)) := by
  refine ax_okw (cw_171 h.1 h.2.1 u v) fun ww τ2 hw => ?_
  obtain ⟨rfl, h1, k⟩ := hw
  exact ⟨rfl, h1, lw_addStage h.2.1 u v, h.2.2.1, lK k h.2.2.2⟩
theorem ls_add {u : Int32} {v : Int32} (h : lx e0 ms mo scr len a b pa p q τ A (oAddStage A u v).2 n Z U) : ax_ok e0 mo 8 171 [aR b, aI u, aI v] τ (fun ww τ2 => ww = aI (an (oAddStage A u v)) ∧ lv e0 ms mo scr len a b pa p q τ2 (oAddStage A u v).2 (n + 1) (Z + 390) (U + 6000)) := by
  refine ax_okw (cw_171 (jj_swap h.1) h.2.2.1 u v) fun ww τ2 hw => ?_
  obtain ⟨rfl, h1, k⟩ := hw
  have hl := lw_addStage h.2.2.1 u v
  rw [op_addStage] at h1 hl ⊢
  exact ⟨rfl, jj_swap h1, h.2.1, hl, lK k h.2.2.2⟩
theorem lf_need (h : lv e0 ms mo scr len a b pa p q τ A n Z U) (u : Int32) (v : Int32) : ax_ok e0 mo 8 172 [aR a, aI u, aI v] τ (fun ww τ2 => ww = aI (an (oNeed A u v)) ∧ lx e0 ms mo scr len a b pa p q τ2 A (oNeed A u v).2 n (Z + 390) (U + 6000)) := by
  refine ax_okw (cw_172 h.1 h.2.1 u v) fun ww τ2 hw => ?_
  obtain ⟨rfl, h1, k⟩ := hw
  exact ⟨rfl, h1, lw_need h.2.1 u v, h.2.2.1, lK k h.2.2.2⟩
theorem ls_need {u : Int32} {v : Int32} (h : lx e0 ms mo scr len a b pa p q τ A (oNeed A u v).2 n Z U) : ax_ok e0 mo 8 172 [aR b, aI u, aI v] τ (fun ww τ2 => ww = aI (an (oNeed A u v)) ∧ lv e0 ms mo scr len a b pa p q τ2 (oNeed A u v).2 (n + 1) (Z + 390) (U + 6000)) := by
  refine ax_okw (cw_172 (jj_swap h.1) h.2.2.1 u v) fun ww τ2 hw => ?_
  obtain ⟨rfl, h1, k⟩ := hw
  have hl := lw_need h.2.2.1 u v
  rw [op_need] at h1 hl ⊢
  exact ⟨rfl, jj_swap h1, h.2.1, hl, lK k h.2.2.2⟩
theorem lf_set (h : lv e0 ms mo scr len a b pa p q τ A n Z U) (u : Int32) (v : Int32) (w : Int32) : ax_ok e0 mo 8 173 [aR a, aI u, aI v, aI w] τ (fun ww τ2 => ww = aI (an (oSetStage A u v w)) ∧ lx e0 ms mo scr len a b pa p q τ2 A (oSetStage A u v w).2 n (Z + 390) (U + 6000)) := by
  refine ax_okw (cw_173 h.1 h.2.1 u v w) fun ww τ2 hw => ?_
  obtain ⟨rfl, h1, k⟩ := hw
  exact ⟨rfl, h1, lw_setStage h.2.1 u v w, h.2.2.1, lK k h.2.2.2⟩
theorem ls_set {u : Int32} {v : Int32} {w : Int32} (h : lx e0 ms mo scr len a b pa p q τ A (oSetStage A u v w).2 n Z U) : ax_ok e0 mo 8 173 [aR b, aI u, aI v, aI w] τ (fun ww τ2 => ww = aI (an (oSetStage A u v w)) ∧ lv e0 ms mo scr len a b pa p q τ2 (oSetStage A u v w).2 (n + 1) (Z + 390) (U + 6000)) := by
  refine ax_okw (cw_173 (jj_swap h.1) h.2.2.1 u v w) fun ww τ2 hw => ?_
  obtain ⟨rfl, h1, k⟩ := hw
  have hl := lw_setStage h.2.2.1 u v w
  rw [op_setStage] at h1 hl ⊢
  exact ⟨rfl, jj_swap h1, h.2.1, hl, lK k h.2.2.2⟩
theorem lf_push (h : lv e0 ms mo scr len a b pa p q τ A n Z U) (u : Int32) (v : Int32) (w : Int32) (z : Int32) : ax_ok e0 mo 10 175 [aR a, aI u, aI v, aI w, aI z] τ (fun ww τ2 => ww = aI (an (oPush A u v w z)) ∧ lx e0 ms mo scr len a b pa p q τ2 A (oPush A u v w z).2 n (Z + 390) (U + 6000)) := by
  refine ax_okw (cw_175 h.1 h.2.1 u v w z) fun ww τ2 hw => ?_
  obtain ⟨rfl, h1, k⟩ := hw
  exact ⟨rfl, h1, lw_push h.2.1 u v w z, h.2.2.1, lK k h.2.2.2⟩
theorem ls_push {u : Int32} {v : Int32} {w : Int32} {z : Int32} (h : lx e0 ms mo scr len a b pa p q τ A (oPush A u v w z).2 n Z U) : ax_ok e0 mo 10 175 [aR b, aI u, aI v, aI w, aI z] τ (fun ww τ2 => ww = aI (an (oPush A u v w z)) ∧ lv e0 ms mo scr len a b pa p q τ2 (oPush A u v w z).2 (n + 1) (Z + 390) (U + 6000)) := by
  refine ax_okw (cw_175 (jj_swap h.1) h.2.2.1 u v w z) fun ww τ2 hw => ?_
  obtain ⟨rfl, h1, k⟩ := hw
  have hl := lw_push h.2.2.1 u v w z
  rw [op_push] at h1 hl ⊢
  exact ⟨rfl, jj_swap h1, h.2.1, hl, lK k h.2.2.2⟩
theorem lf_cancel (h : lv e0 ms mo scr len a b pa p q τ A n Z U) (u : Int32) : ax_ok e0 mo 8 176 [aR a, aI u] τ (fun ww τ2 => ww = aI (an (oCancel A u)) ∧ lx e0 ms mo scr len a b pa p q τ2 A (oCancel A u).2 n (Z + 390) (U + 6000)) := by
  refine ax_okw (cw_176 h.1 h.2.1 u) fun ww τ2 hw => ?_
  obtain ⟨rfl, h1, k⟩ := hw
  exact ⟨rfl, h1, lw_cancel h.2.1 u, h.2.2.1, lK k h.2.2.2⟩
theorem ls_cancel {u : Int32} (h : lx e0 ms mo scr len a b pa p q τ A (oCancel A u).2 n Z U) : ax_ok e0 mo 8 176 [aR b, aI u] τ (fun ww τ2 => ww = aI (an (oCancel A u)) ∧ lv e0 ms mo scr len a b pa p q τ2 (oCancel A u).2 (n + 1) (Z + 390) (U + 6000)) := by
  refine ax_okw (cw_176 (jj_swap h.1) h.2.2.1 u) fun ww τ2 hw => ?_
  obtain ⟨rfl, h1, k⟩ := hw
  have hl := lw_cancel h.2.2.1 u
  rw [op_cancel] at h1 hl ⊢
  exact ⟨rfl, jj_swap h1, h.2.1, hl, lK k h.2.2.2⟩
theorem lf_wt (h : lv e0 ms mo scr len a b pa p q τ A n Z U) (w : Nat) : ax_ok e0 mo 11 177 [aR a, aI 0, aI (nI w)] τ (fun vv τ2 => vv = aI (an (oTake A (nI w))) ∧ lx e0 ms mo scr len a b pa p q τ2 A (oTake A (nI w)).2 n (Z + 390) (U + 6000)) := by
  refine ax_okw (cw_177_t h.1 h.2.1 (nI w)) fun vv τ2 hv => ?_
  obtain ⟨rfl, h1, k⟩ := hv
  exact ⟨rfl, h1, lw_take h.2.1 (nI w), h.2.2.1, lK k h.2.2.2⟩
theorem ls_wt (hp : pq p q) {w : Nat} (hw : w < 4) (hpw : p w < 4) (h : lx e0 ms mo scr len a b pa p q τ A (oTake A (nI w)).2 n Z U) : ax_ok e0 mo 11 177 [aR b, aI 0, aI (nI (p w))] τ (fun vv τ2 => vv = aI (an (oTake A (nI w))) ∧ lv e0 ms mo scr len a b pa p q τ2 (oTake A (nI w)).2 (n + 1) (Z + 390) (U + 6000)) := by
  refine ax_okw (cw_177_t (jj_swap h.1) h.2.2.1 (nI (p w))) fun vv τ2 hv => ?_
  obtain ⟨rfl, h1, k⟩ := hv
  have hl := lw_take h.2.2.1 (nI (p w))
  rw [op_take hp hw hpw] at h1 hl ⊢
  exact ⟨rfl, jj_swap h1, h.2.1, hl, lK k h.2.2.2⟩
theorem lf_wp (h : lv e0 ms mo scr len a b pa p q τ A n Z U) (w : Nat) : ax_ok e0 mo 11 177 [aR a, aI 1, aI (nI w)] τ (fun vv τ2 => vv = aI (an (oFinish A (nI w) true)) ∧ lx e0 ms mo scr len a b pa p q τ2 A (oFinish A (nI w) true).2 n (Z + 390) (U + 6000)) := by
  refine ax_okw (cw_177_p h.1 h.2.1 (nI w)) fun vv τ2 hv => ?_
  obtain ⟨rfl, h1, k⟩ := hv
  exact ⟨rfl, h1, lw_finish h.2.1 (nI w) true, h.2.2.1, lK k h.2.2.2⟩
theorem ls_wp (hp : pq p q) {w : Nat} (hw : w < 4) (hpw : p w < 4) (h : lx e0 ms mo scr len a b pa p q τ A (oFinish A (nI w) true).2 n Z U) : ax_ok e0 mo 11 177 [aR b, aI 1, aI (nI (p w))] τ (fun vv τ2 => vv = aI (an (oFinish A (nI w) true)) ∧ lv e0 ms mo scr len a b pa p q τ2 (oFinish A (nI w) true).2 (n + 1) (Z + 390) (U + 6000)) := by
  refine ax_okw (cw_177_p (jj_swap h.1) h.2.2.1 (nI (p w))) fun vv τ2 hv => ?_
  obtain ⟨rfl, h1, k⟩ := hv
  have hl := lw_finish h.2.2.1 (nI (p w)) true
  rw [op_finish hp hw hpw true] at h1 hl ⊢
  exact ⟨rfl, jj_swap h1, h.2.1, hl, lK k h.2.2.2⟩
theorem lf_wf (h : lv e0 ms mo scr len a b pa p q τ A n Z U) (w : Nat) : ax_ok e0 mo 11 177 [aR a, aI 2, aI (nI w)] τ (fun vv τ2 => vv = aI (an (oFinish A (nI w) false)) ∧ lx e0 ms mo scr len a b pa p q τ2 A (oFinish A (nI w) false).2 n (Z + 390) (U + 6000)) := by
  refine ax_okw (cw_177_f h.1 h.2.1 (nI w)) fun vv τ2 hv => ?_
  obtain ⟨rfl, h1, k⟩ := hv
  exact ⟨rfl, h1, lw_finish h.2.1 (nI w) false, h.2.2.1, lK k h.2.2.2⟩
theorem ls_wf (hp : pq p q) {w : Nat} (hw : w < 4) (hpw : p w < 4) (h : lx e0 ms mo scr len a b pa p q τ A (oFinish A (nI w) false).2 n Z U) : ax_ok e0 mo 11 177 [aR b, aI 2, aI (nI (p w))] τ (fun vv τ2 => vv = aI (an (oFinish A (nI w) false)) ∧ lv e0 ms mo scr len a b pa p q τ2 (oFinish A (nI w) false).2 (n + 1) (Z + 390) (U + 6000)) := by
  refine ax_okw (cw_177_f (jj_swap h.1) h.2.2.1 (nI (p w))) fun vv τ2 hv => ?_
  obtain ⟨rfl, h1, k⟩ := hv
  have hl := lw_finish h.2.2.1 (nI (p w)) false
  rw [op_finish hp hw hpw false] at h1 hl ⊢
  exact ⟨rfl, jj_swap h1, h.2.1, hl, lK k h.2.2.2⟩
theorem lf_wl (h : lv e0 ms mo scr len a b pa p q τ A n Z U) (w : Nat) : ax_ok e0 mo 11 177 [aR a, aI 3, aI (nI w)] τ (fun vv τ2 => vv = aI (an (oLose A (nI w))) ∧ lx e0 ms mo scr len a b pa p q τ2 A (oLose A (nI w)).2 n (Z + 390) (U + 6000)) := by
  refine ax_okw (cw_177_l h.1 h.2.1 (nI w)) fun vv τ2 hv => ?_
  obtain ⟨rfl, h1, k⟩ := hv
  exact ⟨rfl, h1, lw_lose h.2.1 (nI w), h.2.2.1, lK k h.2.2.2⟩
theorem ls_wl (hp : pq p q) {w : Nat} (hw : w < 4) (hpw : p w < 4) (h : lx e0 ms mo scr len a b pa p q τ A (oLose A (nI w)).2 n Z U) : ax_ok e0 mo 11 177 [aR b, aI 3, aI (nI (p w))] τ (fun vv τ2 => vv = aI (an (oLose A (nI w))) ∧ lv e0 ms mo scr len a b pa p q τ2 (oLose A (nI w)).2 (n + 1) (Z + 390) (U + 6000)) := by
  refine ax_okw (cw_177_l (jj_swap h.1) h.2.2.1 (nI (p w))) fun vv τ2 hv => ?_
  obtain ⟨rfl, h1, k⟩ := hv
  have hl := lw_lose h.2.2.1 (nI (p w))
  rw [op_lose hp hw hpw] at h1 hl ⊢
  exact ⟨rfl, jj_swap h1, h.2.1, hl, lK k h.2.2.2⟩
theorem ra_st (h : lv e0 ms mo scr len a b pa p q τ A n Z U) (u : Int32) : ax_ok e0 mo 10 178 [aR a, aI 0, aI u] τ (fun vv τ2 => vv = aI (an (oState A u)) ∧ lv e0 ms mo scr len a b pa p q τ2 A n (Z + cs (oState A u)) (U + 6 * cs (oState A u))) := by
  refine ax_okw (cw_178_0 h.1 h.2.1 u) fun vv τ2 hv => ?_
  obtain ⟨rfl, h1, k⟩ := hv
  exact ⟨rfl, h1, h.2.1, h.2.2.1, lK k h.2.2.2⟩
theorem rb_st (h : lv e0 ms mo scr len a b pa p q τ A n Z U) (u : Int32) : ax_ok e0 mo 10 178 [aR b, aI 0, aI u] τ (fun vv τ2 => vv = aI (an (oState A u)) ∧ lv e0 ms mo scr len a b pa p q τ2 A n (Z + cs (oState A u)) (U + 6 * cs (oState A u))) := by
  refine ax_okw (cw_178_0 (jj_swap h.1) h.2.2.1 u) fun vv τ2 hv => ?_
  obtain ⟨rfl, h1, k⟩ := hv
  rw [an_eq (op_state u)]
  rw [cs_eq (op_state u)] at h1
  exact ⟨rfl, jj_swap h1, h.2.1, h.2.2.1, lK k h.2.2.2⟩
theorem ra_qr (h : lv e0 ms mo scr len a b pa p q τ A n Z U) (u : Int32) : ax_ok e0 mo 10 178 [aR a, aI 1, aI u] τ (fun vv τ2 => vv = aI (an (oQRun A u)) ∧ lv e0 ms mo scr len a b pa p q τ2 A n (Z + cs (oQRun A u)) (U + 6 * cs (oQRun A u))) := by
  refine ax_okw (cw_178_1 h.1 h.2.1 u) fun vv τ2 hv => ?_
  obtain ⟨rfl, h1, k⟩ := hv
  exact ⟨rfl, h1, h.2.1, h.2.2.1, lK k h.2.2.2⟩
theorem rb_qr (h : lv e0 ms mo scr len a b pa p q τ A n Z U) (u : Int32) : ax_ok e0 mo 10 178 [aR b, aI 1, aI u] τ (fun vv τ2 => vv = aI (an (oQRun A u)) ∧ lv e0 ms mo scr len a b pa p q τ2 A n (Z + cs (oQRun A u)) (U + 6 * cs (oQRun A u))) := by
  refine ax_okw (cw_178_1 (jj_swap h.1) h.2.2.1 u) fun vv τ2 hv => ?_
  obtain ⟨rfl, h1, k⟩ := hv
  rw [an_eq (op_qRun u)]
  rw [cs_eq (op_qRun u)] at h1
  exact ⟨rfl, jj_swap h1, h.2.1, h.2.2.1, lK k h.2.2.2⟩
theorem ra_qs (h : lv e0 ms mo scr len a b pa p q τ A n Z U) (u : Int32) : ax_ok e0 mo 10 178 [aR a, aI 2, aI u] τ (fun vv τ2 => vv = aI (an (oQStage A u)) ∧ lv e0 ms mo scr len a b pa p q τ2 A n (Z + cs (oQStage A u)) (U + 6 * cs (oQStage A u))) := by
  refine ax_okw (cw_178_2 h.1 h.2.1 u) fun vv τ2 hv => ?_
  obtain ⟨rfl, h1, k⟩ := hv
  exact ⟨rfl, h1, h.2.1, h.2.2.1, lK k h.2.2.2⟩
theorem rb_qs (h : lv e0 ms mo scr len a b pa p q τ A n Z U) (u : Int32) : ax_ok e0 mo 10 178 [aR b, aI 2, aI u] τ (fun vv τ2 => vv = aI (an (oQStage A u)) ∧ lv e0 ms mo scr len a b pa p q τ2 A n (Z + cs (oQStage A u)) (U + 6 * cs (oQStage A u))) := by
  refine ax_okw (cw_178_2 (jj_swap h.1) h.2.2.1 u) fun vv τ2 hv => ?_
  obtain ⟨rfl, h1, k⟩ := hv
  rw [an_eq (op_qStage u)]
  rw [cs_eq (op_qStage u)] at h1
  exact ⟨rfl, jj_swap h1, h.2.1, h.2.2.1, lK k h.2.2.2⟩
theorem ra_es (h : lv e0 ms mo scr len a b pa p q τ A n Z U) (u : Int32) : ax_ok e0 mo 10 178 [aR a, aI 5, aI u] τ (fun vv τ2 => vv = aI (an (oEStage A u)) ∧ lv e0 ms mo scr len a b pa p q τ2 A n (Z + cs (oEStage A u)) (U + 6 * cs (oEStage A u))) := by
  refine ax_okw (cw_178_5 h.1 h.2.1 u) fun vv τ2 hv => ?_
  obtain ⟨rfl, h1, k⟩ := hv
  exact ⟨rfl, h1, h.2.1, h.2.2.1, lK k h.2.2.2⟩
theorem rb_es (h : lv e0 ms mo scr len a b pa p q τ A n Z U) (u : Int32) : ax_ok e0 mo 10 178 [aR b, aI 5, aI u] τ (fun vv τ2 => vv = aI (an (oEStage A u)) ∧ lv e0 ms mo scr len a b pa p q τ2 A n (Z + cs (oEStage A u)) (U + 6 * cs (oEStage A u))) := by
  refine ax_okw (cw_178_5 (jj_swap h.1) h.2.2.1 u) fun vv τ2 hv => ?_
  obtain ⟨rfl, h1, k⟩ := hv
  rw [an_eq (op_eStage u)]
  rw [cs_eq (op_eStage u)] at h1
  exact ⟨rfl, jj_swap h1, h.2.1, h.2.2.1, lK k h.2.2.2⟩
theorem ra_js (h : lv e0 ms mo scr len a b pa p q τ A n Z U) (u : Int32) (v : Int32) (w : Int32) : ax_ok e0 mo 11 179 [aR a, aI 0, aI u, aI v, aI w] τ (fun vv τ2 => vv = aI (an (oJobState A u v w)) ∧ lv e0 ms mo scr len a b pa p q τ2 A n (Z + cs (oJobState A u v w)) (U + 6 * cs (oJobState A u v w))) := by
  refine ax_okw (cw_179_0 h.1 h.2.1 u v w) fun vv τ2 hv => ?_
  obtain ⟨rfl, h1, k⟩ := hv
  exact ⟨rfl, h1, h.2.1, h.2.2.1, lK k h.2.2.2⟩
theorem rb_js (h : lv e0 ms mo scr len a b pa p q τ A n Z U) (u : Int32) (v : Int32) (w : Int32) : ax_ok e0 mo 11 179 [aR b, aI 0, aI u, aI v, aI w] τ (fun vv τ2 => vv = aI (an (oJobState A u v w)) ∧ lv e0 ms mo scr len a b pa p q τ2 A n (Z + cs (oJobState A u v w)) (U + 6 * cs (oJobState A u v w))) := by
  refine ax_okw (cw_179_0 (jj_swap h.1) h.2.2.1 u v w) fun vv τ2 hv => ?_
  obtain ⟨rfl, h1, k⟩ := hv
  rw [an_eq (op_jobState u v w)]
  rw [cs_eq (op_jobState u v w)] at h1
  exact ⟨rfl, jj_swap h1, h.2.1, h.2.2.1, lK k h.2.2.2⟩
theorem ra_ja (h : lv e0 ms mo scr len a b pa p q τ A n Z U) (u : Int32) (v : Int32) (w : Int32) : ax_ok e0 mo 11 179 [aR a, aI 1, aI u, aI v, aI w] τ (fun vv τ2 => vv = aI (an (oAttempts A u v w)) ∧ lv e0 ms mo scr len a b pa p q τ2 A n (Z + cs (oAttempts A u v w)) (U + 6 * cs (oAttempts A u v w))) := by
  refine ax_okw (cw_179_1 h.1 h.2.1 u v w) fun vv τ2 hv => ?_
  obtain ⟨rfl, h1, k⟩ := hv
  exact ⟨rfl, h1, h.2.1, h.2.2.1, lK k h.2.2.2⟩
theorem rb_ja (h : lv e0 ms mo scr len a b pa p q τ A n Z U) (u : Int32) (v : Int32) (w : Int32) : ax_ok e0 mo 11 179 [aR b, aI 1, aI u, aI v, aI w] τ (fun vv τ2 => vv = aI (an (oAttempts A u v w)) ∧ lv e0 ms mo scr len a b pa p q τ2 A n (Z + cs (oAttempts A u v w)) (U + 6 * cs (oAttempts A u v w))) := by
  refine ax_okw (cw_179_1 (jj_swap h.1) h.2.2.1 u v w) fun vv τ2 hv => ?_
  obtain ⟨rfl, h1, k⟩ := hv
  rw [an_eq (op_attempts u v w)]
  rw [cs_eq (op_attempts u v w)] at h1
  exact ⟨rfl, jj_swap h1, h.2.1, h.2.2.1, lK k h.2.2.2⟩
theorem ra_jr (h : lv e0 ms mo scr len a b pa p q τ A n Z U) (u : Int32) (v : Int32) (w : Int32) : ax_ok e0 mo 11 179 [aR a, aI 2, aI u, aI v, aI w] τ (fun vv τ2 => vv = aI (an (oRestored A u v w)) ∧ lv e0 ms mo scr len a b pa p q τ2 A n (Z + cs (oRestored A u v w)) (U + 6 * cs (oRestored A u v w))) := by
  refine ax_okw (cw_179_2 h.1 h.2.1 u v w) fun vv τ2 hv => ?_
  obtain ⟨rfl, h1, k⟩ := hv
  exact ⟨rfl, h1, h.2.1, h.2.2.1, lK k h.2.2.2⟩
theorem rb_jr (h : lv e0 ms mo scr len a b pa p q τ A n Z U) (u : Int32) (v : Int32) (w : Int32) : ax_ok e0 mo 11 179 [aR b, aI 2, aI u, aI v, aI w] τ (fun vv τ2 => vv = aI (an (oRestored A u v w)) ∧ lv e0 ms mo scr len a b pa p q τ2 A n (Z + cs (oRestored A u v w)) (U + 6 * cs (oRestored A u v w))) := by
  refine ax_okw (cw_179_2 (jj_swap h.1) h.2.2.1 u v w) fun vv τ2 hv => ?_
  obtain ⟨rfl, h1, k⟩ := hv
  rw [an_eq (op_restored u v w)]
  rw [cs_eq (op_restored u v w)] at h1
  exact ⟨rfl, jj_swap h1, h.2.1, h.2.2.1, lK k h.2.2.2⟩
theorem ra_ei (h : lv e0 ms mo scr len a b pa p q τ A n Z U) (u : Int32) (v : Int32) (w : Int32) : ax_ok e0 mo 11 179 [aR a, aI 3, aI u, aI v, aI w] τ (fun vv τ2 => vv = aI (an (oEInput A u w)) ∧ lv e0 ms mo scr len a b pa p q τ2 A n (Z + cs (oEInput A u w)) (U + 6 * cs (oEInput A u w))) := by
  refine ax_okw (cw_179_3 h.1 h.2.1 u v w) fun vv τ2 hv => ?_
  obtain ⟨rfl, h1, k⟩ := hv
  exact ⟨rfl, h1, h.2.1, h.2.2.1, lK k h.2.2.2⟩
theorem rb_ei (h : lv e0 ms mo scr len a b pa p q τ A n Z U) (u : Int32) (v : Int32) (w : Int32) : ax_ok e0 mo 11 179 [aR b, aI 3, aI u, aI v, aI w] τ (fun vv τ2 => vv = aI (an (oEInput A u w)) ∧ lv e0 ms mo scr len a b pa p q τ2 A n (Z + cs (oEInput A u w)) (U + 6 * cs (oEInput A u w))) := by
  refine ax_okw (cw_179_3 (jj_swap h.1) h.2.2.1 u v w) fun vv τ2 hv => ?_
  obtain ⟨rfl, h1, k⟩ := hv
  rw [an_eq (op_eInput u w)]
  rw [cs_eq (op_eInput u w)] at h1
  exact ⟨rfl, jj_swap h1, h.2.1, h.2.2.1, lK k h.2.2.2⟩
theorem ra_wr (h : lv e0 ms mo scr len a b pa p q τ A n Z U) {w : Nat} (hw : w < 4) : ax_ok e0 mo 10 178 [aR a, aI 3, aI (nI w)] τ (fun vv τ2 => vv = aI (an (oWRun A (nI w))) ∧ lv e0 ms mo scr len a b pa p q τ2 A n Z U) := by
  refine ax_okw (cw_178_3 h.1 h.2.1 (nI w)) fun vv τ2 hv => ?_
  obtain ⟨rfl, h1, k⟩ := hv
  have e : cs (oWRun A (nI w)) = 0 := by unfold cs oWRun; rw [inB4 hw]; rfl
  rw [e] at h1
  exact ⟨rfl, h1, h.2.1, h.2.2.1, lK k h.2.2.2⟩
theorem rb_wr (hp : pq p q) {w : Nat} (hw : w < 4) (hpw : p w < 4) (h : lv e0 ms mo scr len a b pa p q τ A n Z U) : ax_ok e0 mo 10 178 [aR b, aI 3, aI (nI (p w))] τ (fun vv τ2 => vv = aI (an (oWRun A (nI w))) ∧ lv e0 ms mo scr len a b pa p q τ2 A n Z U) := by
  refine ax_okw (cw_178_3 (jj_swap h.1) h.2.2.1 (nI (p w))) fun vv τ2 hv => ?_
  obtain ⟨rfl, h1, k⟩ := hv
  have e : cs (oWRun (pm q A) (nI (p w))) = 0 := by unfold cs oWRun; rw [inB4 hpw]; rfl
  rw [e] at h1
  rw [an_eq (op_wRun hp hw hpw)]
  exact ⟨rfl, jj_swap h1, h.2.1, h.2.2.1, lK k h.2.2.2⟩
theorem ra_ws (h : lv e0 ms mo scr len a b pa p q τ A n Z U) {w : Nat} (hw : w < 4) : ax_ok e0 mo 10 178 [aR a, aI 4, aI (nI w)] τ (fun vv τ2 => vv = aI (an (oWStage A (nI w))) ∧ lv e0 ms mo scr len a b pa p q τ2 A n Z U) := by
  refine ax_okw (cw_178_4 h.1 h.2.1 (nI w)) fun vv τ2 hv => ?_
  obtain ⟨rfl, h1, k⟩ := hv
  have e : cs (oWStage A (nI w)) = 0 := by unfold cs oWStage; rw [inB4 hw]; rfl
  rw [e] at h1
  exact ⟨rfl, h1, h.2.1, h.2.2.1, lK k h.2.2.2⟩
theorem rb_ws (hp : pq p q) {w : Nat} (hw : w < 4) (hpw : p w < 4) (h : lv e0 ms mo scr len a b pa p q τ A n Z U) : ax_ok e0 mo 10 178 [aR b, aI 4, aI (nI (p w))] τ (fun vv τ2 => vv = aI (an (oWStage A (nI w))) ∧ lv e0 ms mo scr len a b pa p q τ2 A n Z U) := by
  refine ax_okw (cw_178_4 (jj_swap h.1) h.2.2.1 (nI (p w))) fun vv τ2 hv => ?_
  obtain ⟨rfl, h1, k⟩ := hv
  have e : cs (oWStage (pm q A) (nI (p w))) = 0 := by unfold cs oWStage; rw [inB4 hpw]; rfl
  rw [e] at h1
  rw [an_eq (op_wStage hp hw hpw)]
  exact ⟨rfl, jj_swap h1, h.2.1, h.2.2.1, lK k h.2.2.2⟩
theorem ra_runs (h : lv e0 ms mo scr len a b pa p q τ A n Z U) : ax_ok e0 mo 1 43 [aR a] τ (fun vv τ2 => vv = aI (nI (mR A)) ∧ lv e0 ms mo scr len a b pa p q τ2 A n Z U) := by
  refine ax_post (jj_ro ss_cks (is := []) (X := []) (o := ((0, nI (mR A)), A)) h.1 (fun σ x L rc => ct_43 rc)) fun r τ2 hr => ?_
  rcases r with v | E
  · obtain ⟨-, rfl, h1, k⟩ := hr
    exact ⟨rfl, h1, h.2.1, h.2.2.1, lK k h.2.2.2⟩
  · exact absurd hr.1 (show ¬ (1 : Nat) ≤ 0 by decide)
theorem rb_runs (h : lv e0 ms mo scr len a b pa p q τ A n Z U) : ax_ok e0 mo 1 43 [aR b] τ (fun vv τ2 => vv = aI (nI (mR A)) ∧ lv e0 ms mo scr len a b pa p q τ2 A n Z U) := by
  refine ax_post (jj_ro ss_cks (is := []) (X := []) (o := ((0, nI (mR (pm q A))), pm q A)) (jj_swap h.1) (fun σ x L rc => ct_43 rc)) fun r τ2 hr => ?_
  rcases r with v | E
  · obtain ⟨-, rfl, h1, k⟩ := hr
    exact ⟨rfl, (jj_swap h1), h.2.1, h.2.2.1, lK k h.2.2.2⟩
  · exact absurd hr.1 (show ¬ (1 : Nat) ≤ 0 by decide)
theorem ra_queued (h : lv e0 ms mo scr len a b pa p q τ A n Z U) : ax_ok e0 mo 1 50 [aR a] τ (fun vv τ2 => vv = aI (nI (mQ A).length) ∧ lv e0 ms mo scr len a b pa p q τ2 A n Z U) := by
  refine ax_post (jj_ro ss_cks (is := []) (X := []) (o := ((0, nI (mQ A).length), A)) h.1 (fun σ x L rc => ct_50 rc)) fun r τ2 hr => ?_
  rcases r with v | E
  · obtain ⟨-, rfl, h1, k⟩ := hr
    exact ⟨rfl, h1, h.2.1, h.2.2.1, lK k h.2.2.2⟩
  · exact absurd hr.1 (show ¬ (1 : Nat) ≤ 0 by decide)
theorem rb_queued (h : lv e0 ms mo scr len a b pa p q τ A n Z U) : ax_ok e0 mo 1 50 [aR b] τ (fun vv τ2 => vv = aI (nI (mQ A).length) ∧ lv e0 ms mo scr len a b pa p q τ2 A n Z U) := by
  refine ax_post (jj_ro ss_cks (is := []) (X := []) (o := ((0, nI (mQ (pm q A)).length), pm q A)) (jj_swap h.1) (fun σ x L rc => ct_50 rc)) fun r τ2 hr => ?_
  rcases r with v | E
  · obtain ⟨-, rfl, h1, k⟩ := hr
    exact ⟨rfl, (jj_swap h1), h.2.1, h.2.2.1, lK k h.2.2.2⟩
  · exact absurd hr.1 (show ¬ (1 : Nat) ≤ 0 by decide)
theorem ra_entries (h : lv e0 ms mo scr len a b pa p q τ A n Z U) : ax_ok e0 mo 1 58 [aR a] τ (fun vv τ2 => vv = aI (nI (mE A).length) ∧ lv e0 ms mo scr len a b pa p q τ2 A n Z U) := by
  refine ax_post (jj_ro ss_cks (is := []) (X := []) (o := ((0, nI (mE A).length), A)) h.1 (fun σ x L rc => ct_58 rc)) fun r τ2 hr => ?_
  rcases r with v | E
  · obtain ⟨-, rfl, h1, k⟩ := hr
    exact ⟨rfl, h1, h.2.1, h.2.2.1, lK k h.2.2.2⟩
  · exact absurd hr.1 (show ¬ (1 : Nat) ≤ 0 by decide)
theorem rb_entries (h : lv e0 ms mo scr len a b pa p q τ A n Z U) : ax_ok e0 mo 1 58 [aR b] τ (fun vv τ2 => vv = aI (nI (mE A).length) ∧ lv e0 ms mo scr len a b pa p q τ2 A n Z U) := by
  refine ax_post (jj_ro ss_cks (is := []) (X := []) (o := ((0, nI (mE (pm q A)).length), pm q A)) (jj_swap h.1) (fun σ x L rc => ct_58 rc)) fun r τ2 hr => ?_
  rcases r with v | E
  · obtain ⟨-, rfl, h1, k⟩ := hr
    exact ⟨rfl, (jj_swap h1), h.2.1, h.2.2.1, lK k h.2.2.2⟩
  · exact absurd hr.1 (show ¬ (1 : Nat) ≤ 0 by decide)
end
end AXPR
