/-! The law's calls that catch, on the first of two objects. Printed by wip/p31/gen/gen83.py. -/
section AXCW1
/-- what the law's call answers -/
def an (o : OC) : Int32 := if o.1.1 = 0 then o.1.2 else -60
/-- what a refused read costs -/
def cs (o : OC) : Nat := if o.1.1 = 0 then 0 else 1
theorem cs_le (o : OC) : cs o ≤ 1 := by
  unfold cs
  split
  · exact Nat.zero_le _
  · exact Nat.le_refl _
theorem oc_if {b : Bool} {o1 o2 : OC} {n : Nat} (h1 : o1.1.1 ≤ n) (h2 : o2.1.1 ≤ n) : (bif b then o1 else o2).1.1 ≤ n := by
  cases b
  · exact h2
  · exact h1
theorem oc_ex {A : MS} {b : Bool} {o1 o2 : OC} (h1 : 1 ≤ o1.1.1 → o1.2 = A) (h2 : 1 ≤ o2.1.1 → o2.2 = A) : 1 ≤ (bif b then o1 else o2).1.1 → (bif b then o1 else o2).2 = A := by
  cases b
  · exact h2
  · exact h1
section
variable {e0 ms mo : Nat} {τ : SG} {a b n : Nat} {A B : MS} {ws : List Nat} {Z U : Nat}
/-- after a call that may write -/
def jW (e0 ms mo : Nat) (τ : SG) (a b : Nat) (B : MS) (ws : List Nat) (Z U : Nat) (o : OC) : AV → SG → Prop := fun w τ2 => w = aI (an o) ∧ jj e0 ms mo τ2 a b o.2 B ws (Z + 390) (U + 6000) ∧ jK τ τ2 ws
/-- after one that only reads -/
def jR (e0 ms mo : Nat) (τ : SG) (a b : Nat) (A B : MS) (ws : List Nat) (Z U : Nat) (o : OC) : AV → SG → Prop := fun w τ2 => w = aI (an o) ∧ jj e0 ms mo τ2 a b A B ws (Z + cs o) (U + 6 * cs o) ∧ jK τ τ2 ws
theorem jj_kd (h : jj e0 ms mo τ a b A B ws Z U) : (sgK τ a).1 = 6 := by
  obtain ⟨φ, σ, x, L, φ', σ', x', L', ⟨h1, h2, h3⟩, -⟩ := h
  have kx := (xf h2).1
  have xlt : x < sgZ σ := (rc_hb h2).2.2.1
  rw [← h3, (ss_kd h1 xlt (k := 6) (by rw [kx]) (by decide)).2.1, kx]
/-- a call inside one that catches -/
theorem jw_use {d hh y Wm pc : Nat} {as : List AV} {X : List Nat} {o : OC} {P PX : SG → Prop} {F : AV → SG → Prop} {Q : Res → SG → Prop} (c : ax_wp e0 mo hh y (0, ax_entry y as, []) τ (ax_ct (fun v τ2 => o.1.1 = 0 ∧ v = aI o.1.2 ∧ P τ2) (fun E τ2 => 1 ≤ o.1.1 ∧ E = X.getD (o.1.1 - 1) 9 ∧ PX τ2))) (hd : Nat.ble hh d = true) (ho : o.1.1 ≤ X.length) (hx : ∀ i, i < X.length → ax_h Wm pc (X.getD i 9) = some (-60)) (k : ∀ τ2, o.1.1 = 0 → P τ2 → F (aI o.1.2) τ2) (kx : ∀ τ2, 1 ≤ o.1.1 → PX τ2 → Q (.inl (aI (-60))) τ2) : ax_wp e0 mo d y (0, ax_entry y as, []) τ (ax_ct F (fun E σ2 => ax_exc Wm pc Q E σ2)) := by
  refine ax_useX c hd (fun v σ2 hv => ?_) (fun E σ2 hE => ?_)
  · obtain ⟨h0, rfl, h2⟩ := hv
    exact k σ2 h0 h2
  · obtain ⟨h1, rfl, h2⟩ := hE
    unfold ax_exc
    rw [hx (o.1.1 - 1) (by omega)]
    exact kx σ2 h1 h2
theorem an_0 {o : OC} (h : o.1.1 = 0) : an o = o.1.2 := if_pos h
theorem an_1 {o : OC} (h : 1 ≤ o.1.1) : an o = -60 := if_neg (by omega)
theorem cs_0 {o : OC} (h : o.1.1 = 0) : cs o = 0 := if_pos h
theorem cs_1 {o : OC} (h : 1 ≤ o.1.1) : cs o = 1 := if_neg (by omega)
theorem jW_thr {τ2 : SG} {o : OC} (h1 : 1 ≤ o.1.1) (hA : o.2 = A) (hp : jj e0 ms mo τ2 a b A B ws (Z + 1) (U + 6) ∧ jK τ τ2 ws) : jW e0 ms mo τ a b B ws Z U o (aI (-60)) τ2 := by
  refine ⟨by rw [an_1 h1], ?_, hp.2⟩
  rw [hA]
  exact jj_le hp.1 (by omega) (by omega)
theorem jW_ret {τ2 : SG} {o : OC} (h0 : o.1.1 = 0) (hp : jj e0 ms mo τ2 a b o.2 B ws (Z + 390) (U + 6000) ∧ jK τ τ2 ws) : jW e0 ms mo τ a b B ws Z U o (aI o.1.2) τ2 := ⟨by rw [an_0 h0], hp⟩
theorem jR_thr {τ2 : SG} {o : OC} (h1 : 1 ≤ o.1.1) (hp : jj e0 ms mo τ2 a b A B ws (Z + 1) (U + 6) ∧ jK τ τ2 ws) : jR e0 ms mo τ a b A B ws Z U o (aI (-60)) τ2 := by
  refine ⟨by rw [an_1 h1], ?_, hp.2⟩
  rw [cs_1 h1]
  exact hp.1
theorem jR_ret {τ2 : SG} {o : OC} (h0 : o.1.1 = 0) (hp : jj e0 ms mo τ2 a b A B ws Z U ∧ jK τ τ2 ws) : jR e0 ms mo τ a b A B ws Z U o (aI o.1.2) τ2 := by
  refine ⟨by rw [an_0 h0], ?_, hp.2⟩
  rw [cs_0 h0]
  exact hp.1
theorem oAddStage_le (A : MS) (u : Int32) (v : Int32) : (oAddStage A u v).1.1 ≤ 2 := by
  unfold oAddStage
  repeat' apply oc_if
  all_goals first | exact Nat.zero_le _ | exact Nat.succ_le_succ (Nat.zero_le _) | exact Nat.succ_le_succ (Nat.succ_le_succ (Nat.zero_le _)) | exact Nat.succ_le_succ (Nat.succ_le_succ (Nat.succ_le_succ (Nat.zero_le _)))
theorem oAddStage_ex (A : MS) (u : Int32) (v : Int32) : 1 ≤ (oAddStage A u v).1.1 → (oAddStage A u v).2 = A := by
  unfold oAddStage
  repeat' apply oc_ex
  all_goals first | exact fun _ => rfl | exact fun z => absurd z (Nat.not_succ_le_zero _)
theorem cw_171 (h : jj e0 ms mo τ a b A B ws Z U) (hl : lwA A n) (u : Int32) (v : Int32) : ax_ok e0 mo 8 171 [aR a, aI u, aI v] τ (jW e0 ms mo τ a b B ws Z U (oAddStage A u v)) := by
  refine sg_171_0 (d := 7) ⟨jj_kd h, jw_use (jj_po ss_cks (is := [u, v]) h (fun σ x L rc he => ct_33 rc hl.1 u v)) rfl (oAddStage_le A u v) (fun i hi => by
    have hi : i < 2 := hi
    have e : i = 0 ∨ i = 1 := by omega
    rcases e with rfl | rfl <;> rfl) (fun τ2 h0 hp => ?_) (fun τ2 h1 hp => jW_thr h1 (oAddStage_ex A u v h1) hp)⟩
  exact sg_171_6 (d := 7) (jW_ret h0 hp)
theorem oNeed_le (A : MS) (u : Int32) (v : Int32) : (oNeed A u v).1.1 ≤ 2 := by
  unfold oNeed
  repeat' apply oc_if
  all_goals first | exact Nat.zero_le _ | exact Nat.succ_le_succ (Nat.zero_le _) | exact Nat.succ_le_succ (Nat.succ_le_succ (Nat.zero_le _)) | exact Nat.succ_le_succ (Nat.succ_le_succ (Nat.succ_le_succ (Nat.zero_le _)))
theorem oNeed_ex (A : MS) (u : Int32) (v : Int32) : 1 ≤ (oNeed A u v).1.1 → (oNeed A u v).2 = A := by
  unfold oNeed
  repeat' apply oc_ex
  all_goals first | exact fun _ => rfl | exact fun z => absurd z (Nat.not_succ_le_zero _)
theorem cw_172 (h : jj e0 ms mo τ a b A B ws Z U) (hl : lwA A n) (u : Int32) (v : Int32) : ax_ok e0 mo 8 172 [aR a, aI u, aI v] τ (jW e0 ms mo τ a b B ws Z U (oNeed A u v)) := by
  refine sg_172_0 (d := 7) ⟨jj_kd h, jw_use (jj_po ss_cks (is := [u, v]) h (fun σ x L rc he => ct_34 rc hl.1 u v)) rfl (oNeed_le A u v) (fun i hi => by
    have hi : i < 2 := hi
    have e : i = 0 ∨ i = 1 := by omega
    rcases e with rfl | rfl <;> rfl) (fun τ2 h0 hp => ?_) (fun τ2 h1 hp => jW_thr h1 (oNeed_ex A u v h1) hp)⟩
  exact sg_172_6 (d := 7) (jW_ret h0 hp)
theorem oSetStage_le (A : MS) (u : Int32) (v : Int32) (w : Int32) : (oSetStage A u v w).1.1 ≤ 3 := by
  unfold oSetStage
  repeat' apply oc_if
  all_goals first | exact Nat.zero_le _ | exact Nat.succ_le_succ (Nat.zero_le _) | exact Nat.succ_le_succ (Nat.succ_le_succ (Nat.zero_le _)) | exact Nat.succ_le_succ (Nat.succ_le_succ (Nat.succ_le_succ (Nat.zero_le _)))
theorem oSetStage_ex (A : MS) (u : Int32) (v : Int32) (w : Int32) : 1 ≤ (oSetStage A u v w).1.1 → (oSetStage A u v w).2 = A := by
  unfold oSetStage
  repeat' apply oc_ex
  all_goals first | exact fun _ => rfl | exact fun z => absurd z (Nat.not_succ_le_zero _)
theorem cw_173 (h : jj e0 ms mo τ a b A B ws Z U) (hl : lwA A n) (u : Int32) (v : Int32) (w : Int32) : ax_ok e0 mo 8 173 [aR a, aI u, aI v, aI w] τ (jW e0 ms mo τ a b B ws Z U (oSetStage A u v w)) := by
  refine sg_173_0 (d := 7) ⟨jj_kd h, jw_use (jj_po ss_cks (is := [u, v, w]) h (fun σ x L rc he => ct_36 rc hl.1 u v w)) rfl (oSetStage_le A u v w) (fun i hi => by
    have hi : i < 3 := hi
    have e : i = 0 ∨ i = 1 ∨ i = 2 := by omega
    rcases e with rfl | rfl | rfl <;> rfl) (fun τ2 h0 hp => ?_) (fun τ2 h1 hp => jW_thr h1 (oSetStage_ex A u v w h1) hp)⟩
  exact sg_173_7 (d := 7) (jW_ret h0 hp)
theorem oPush_le (A : MS) (u : Int32) (v : Int32) (w : Int32) (z : Int32) : (oPush A u v w z).1.1 ≤ 3 := by
  unfold oPush
  repeat' apply oc_if
  all_goals first | exact Nat.zero_le _ | exact Nat.succ_le_succ (Nat.zero_le _) | exact Nat.succ_le_succ (Nat.succ_le_succ (Nat.zero_le _)) | exact Nat.succ_le_succ (Nat.succ_le_succ (Nat.succ_le_succ (Nat.zero_le _)))
theorem oPush_ex (A : MS) (u : Int32) (v : Int32) (w : Int32) (z : Int32) : 1 ≤ (oPush A u v w z).1.1 → (oPush A u v w z).2 = A := by
  unfold oPush
  repeat' apply oc_ex
  all_goals first | exact fun _ => rfl | exact fun z => absurd z (Nat.not_succ_le_zero _)
theorem cw_175 (h : jj e0 ms mo τ a b A B ws Z U) (hl : lwA A n) (u : Int32) (v : Int32) (w : Int32) (z : Int32) : ax_ok e0 mo 10 175 [aR a, aI u, aI v, aI w, aI z] τ (jW e0 ms mo τ a b B ws Z U (oPush A u v w z)) := by
  refine sg_175_0 (d := 9) ⟨jj_kd h, jw_use (jj_po ss_cks (is := [u, v, w, z]) h (fun σ x L rc he => ct_41 rc hl.1 hl.2.1 he u v w z)) rfl (oPush_le A u v w z) (fun i hi => by
    have hi : i < 3 := hi
    have e : i = 0 ∨ i = 1 ∨ i = 2 := by omega
    rcases e with rfl | rfl | rfl <;> rfl) (fun τ2 h0 hp => ?_) (fun τ2 h1 hp => jW_thr h1 (oPush_ex A u v w z h1) hp)⟩
  exact sg_175_9 (d := 9) (jW_ret h0 hp)
theorem oCancel_le (A : MS) (u : Int32) : (oCancel A u).1.1 ≤ 2 := by
  unfold oCancel
  repeat' apply oc_if
  all_goals first | exact Nat.zero_le _ | exact Nat.succ_le_succ (Nat.zero_le _) | exact Nat.succ_le_succ (Nat.succ_le_succ (Nat.zero_le _)) | exact Nat.succ_le_succ (Nat.succ_le_succ (Nat.succ_le_succ (Nat.zero_le _)))
theorem oCancel_ex (A : MS) (u : Int32) : 1 ≤ (oCancel A u).1.1 → (oCancel A u).2 = A := by
  unfold oCancel
  repeat' apply oc_ex
  all_goals first | exact fun _ => rfl | exact fun z => absurd z (Nat.not_succ_le_zero _)
theorem cw_176 (h : jj e0 ms mo τ a b A B ws Z U) (hl : lwA A n) (u : Int32) : ax_ok e0 mo 8 176 [aR a, aI u] τ (jW e0 ms mo τ a b B ws Z U (oCancel A u)) := by
  refine sg_176_0 (d := 7) ⟨jj_kd h, jw_use (jj_po ss_cks (is := [u]) h (fun σ x L rc he => ct_42 rc hl.1 u)) rfl (oCancel_le A u) (fun i hi => by
    have hi : i < 2 := hi
    have e : i = 0 ∨ i = 1 := by omega
    rcases e with rfl | rfl <;> rfl) (fun τ2 h0 hp => ?_) (fun τ2 h1 hp => jW_thr h1 (oCancel_ex A u h1) hp)⟩
  exact sg_176_5 (d := 7) (jW_ret h0 hp)
theorem oTake_le (A : MS) (u : Int32) : (oTake A u).1.1 ≤ 2 := by
  unfold oTake
  repeat' apply oc_if
  all_goals first | exact Nat.zero_le _ | exact Nat.succ_le_succ (Nat.zero_le _) | exact Nat.succ_le_succ (Nat.succ_le_succ (Nat.zero_le _)) | exact Nat.succ_le_succ (Nat.succ_le_succ (Nat.succ_le_succ (Nat.zero_le _)))
theorem oTake_ex (A : MS) (u : Int32) : 1 ≤ (oTake A u).1.1 → (oTake A u).2 = A := by
  unfold oTake
  repeat' apply oc_ex
  all_goals first | exact fun _ => rfl | exact fun z => absurd z (Nat.not_succ_le_zero _)
theorem oFinish_le (A : MS) (u : Int32) (c : Bool) : (oFinish A u c).1.1 ≤ 2 := by
  unfold oFinish
  repeat' apply oc_if
  all_goals first | exact Nat.zero_le _ | exact Nat.succ_le_succ (Nat.zero_le _) | exact Nat.succ_le_succ (Nat.succ_le_succ (Nat.zero_le _)) | exact Nat.succ_le_succ (Nat.succ_le_succ (Nat.succ_le_succ (Nat.zero_le _)))
theorem oFinish_ex (A : MS) (u : Int32) (c : Bool) : 1 ≤ (oFinish A u c).1.1 → (oFinish A u c).2 = A := by
  unfold oFinish
  repeat' apply oc_ex
  all_goals first | exact fun _ => rfl | exact fun z => absurd z (Nat.not_succ_le_zero _)
theorem oLose_le (A : MS) (u : Int32) : (oLose A u).1.1 ≤ 2 := by
  unfold oLose
  repeat' apply oc_if
  all_goals first | exact Nat.zero_le _ | exact Nat.succ_le_succ (Nat.zero_le _) | exact Nat.succ_le_succ (Nat.succ_le_succ (Nat.zero_le _)) | exact Nat.succ_le_succ (Nat.succ_le_succ (Nat.succ_le_succ (Nat.zero_le _)))
theorem oLose_ex (A : MS) (u : Int32) : 1 ≤ (oLose A u).1.1 → (oLose A u).2 = A := by
  unfold oLose
  repeat' apply oc_ex
  all_goals first | exact fun _ => rfl | exact fun z => absurd z (Nat.not_succ_le_zero _)
theorem cw_177_t (h : jj e0 ms mo τ a b A B ws Z U) (hl : lwA A n) (u : Int32) : ax_ok e0 mo 11 177 [aR a, aI 0, aI u] τ (jW e0 ms mo τ a b B ws Z U (oTake A u)) := by
  have c : ax_wp e0 mo 10 53 (0, ax_entry 53 [aR a, aI u], []) τ (ax_ct (fun vv σ2 => ax_wp e0 mo 11 177 (9, [aR a, aI 0, aI u, aU], ax_push vv []) σ2 (ax_ct (jW e0 ms mo τ a b B ws Z U (oTake A u)) (fun _ _ => False))) (fun E σ2 => ax_exc 177 6 (ax_ct (jW e0 ms mo τ a b B ws Z U (oTake A u)) (fun _ _ => False)) E σ2)) := by
    refine jw_use (jj_po ss_cks (is := [u]) h (fun σ x L rc he => ct_53 rc hl.1 hl.2.2.2 u)) rfl (oTake_le A u) (fun i hi => by
    have hi : i < 2 := hi
    have e : i = 0 ∨ i = 1 := by omega
    rcases e with rfl | rfl <;> rfl) (fun τ2 h0 hp => ?_) (fun τ2 h1 hp => jW_thr h1 (oTake_ex A u h1) hp)
    exact sg_177_9 (d := 10) (sg_177_40 (d := 10) (jW_ret h0 hp))
  exact sg_177_0 (d := 10) ⟨fun _ => ⟨jj_kd h, c⟩, fun z => absurd rfl z⟩
theorem cw_177_l (h : jj e0 ms mo τ a b A B ws Z U) (hl : lwA A n) (u : Int32) : ax_ok e0 mo 11 177 [aR a, aI 3, aI u] τ (jW e0 ms mo τ a b B ws Z U (oLose A u)) := by
  have c : ax_wp e0 mo 10 55 (0, ax_entry 55 [aR a, aI u], []) τ (ax_ct (fun vv σ2 => ax_wp e0 mo 11 177 (22, [aR a, aI 3, aI u, aU], ax_push vv []) σ2 (ax_ct (jW e0 ms mo τ a b B ws Z U (oLose A u)) (fun _ _ => False))) (fun E σ2 => ax_exc 177 19 (ax_ct (jW e0 ms mo τ a b B ws Z U (oLose A u)) (fun _ _ => False)) E σ2)) := by
    refine jw_use (jj_po ss_cks (is := [u]) h (fun σ x L rc he => ct_55 rc hl.1 u)) rfl (oLose_le A u) (fun i hi => by
    have hi : i < 2 := hi
    have e : i = 0 ∨ i = 1 := by omega
    rcases e with rfl | rfl <;> rfl) (fun τ2 h0 hp => ?_) (fun τ2 h1 hp => jW_thr h1 (oLose_ex A u h1) hp)
    exact sg_177_22 (d := 10) (sg_177_40 (d := 10) (jW_ret h0 hp))
  exact sg_177_0 (d := 10) ⟨fun z => absurd z (by decide), fun _ => ⟨fun _ => ⟨jj_kd h, c⟩, fun z => absurd rfl z⟩⟩
theorem cw_177_p (h : jj e0 ms mo τ a b A B ws Z U) (hl : lwA A n) (u : Int32) : ax_ok e0 mo 11 177 [aR a, aI 1, aI u] τ (jW e0 ms mo τ a b B ws Z U (oFinish A u true)) := by
  have c : ax_wp e0 mo 10 54 (0, ax_entry 54 [aR a, aI u, aI 1], []) τ (ax_ct (fun vv σ2 => ax_wp e0 mo 11 177 (40, [aR a, aI 1, aI u, aU], ax_push vv []) σ2 (ax_ct (jW e0 ms mo τ a b B ws Z U (oFinish A u true)) (fun _ _ => False))) (fun E σ2 => ax_exc 177 37 (ax_ct (jW e0 ms mo τ a b B ws Z U (oFinish A u true)) (fun _ _ => False)) E σ2)) := by
    refine jw_use (jj_po ss_cks (is := [u, 1]) h (fun σ x L rc he => ct_54 rc hl.1 u true)) rfl (oFinish_le A u true) (fun i hi => by
    have hi : i < 2 := hi
    have e : i = 0 ∨ i = 1 := by omega
    rcases e with rfl | rfl <;> rfl) (fun τ2 h0 hp => ?_) (fun τ2 h1 hp => jW_thr h1 (oFinish_ex A u true h1) hp)
    exact sg_177_40 (d := 10) (jW_ret h0 hp)
  exact sg_177_0 (d := 10) ⟨fun z => absurd z (by decide), fun _ => ⟨fun z => absurd z (by decide), fun _ => ⟨fun _ => ⟨jj_kd h, c⟩, fun z => absurd rfl z⟩⟩⟩
theorem cw_177_f (h : jj e0 ms mo τ a b A B ws Z U) (hl : lwA A n) (u : Int32) : ax_ok e0 mo 11 177 [aR a, aI 2, aI u] τ (jW e0 ms mo τ a b B ws Z U (oFinish A u false)) := by
  have c : ax_wp e0 mo 10 54 (0, ax_entry 54 [aR a, aI u, aI 0], []) τ (ax_ct (fun vv σ2 => ax_wp e0 mo 11 177 (40, [aR a, aI 2, aI u, aU], ax_push vv []) σ2 (ax_ct (jW e0 ms mo τ a b B ws Z U (oFinish A u false)) (fun _ _ => False))) (fun E σ2 => ax_exc 177 37 (ax_ct (jW e0 ms mo τ a b B ws Z U (oFinish A u false)) (fun _ _ => False)) E σ2)) := by
    refine jw_use (jj_po ss_cks (is := [u, 0]) h (fun σ x L rc he => ct_54 rc hl.1 u false)) rfl (oFinish_le A u false) (fun i hi => by
    have hi : i < 2 := hi
    have e : i = 0 ∨ i = 1 := by omega
    rcases e with rfl | rfl <;> rfl) (fun τ2 h0 hp => ?_) (fun τ2 h1 hp => jW_thr h1 (oFinish_ex A u false h1) hp)
    exact sg_177_40 (d := 10) (jW_ret h0 hp)
  exact sg_177_0 (d := 10) ⟨fun z => absurd z (by decide), fun _ => ⟨fun z => absurd z (by decide), fun _ => ⟨fun z => absurd z (by decide), fun _ => ⟨jj_kd h, c⟩⟩⟩⟩
theorem oState_le (A : MS) (u : Int32) : (oState A u).1.1 ≤ 1 := by
  unfold oState
  repeat' apply oc_if
  all_goals first | exact Nat.zero_le _ | exact Nat.succ_le_succ (Nat.zero_le _) | exact Nat.succ_le_succ (Nat.succ_le_succ (Nat.zero_le _)) | exact Nat.succ_le_succ (Nat.succ_le_succ (Nat.succ_le_succ (Nat.zero_le _)))
theorem cw_178_0 (h : jj e0 ms mo τ a b A B ws Z U) (hl : lwA A n) (u : Int32) : ax_ok e0 mo 10 178 [aR a, aI 0, aI u] τ (jR e0 ms mo τ a b A B ws Z U (oState A u)) := by
  have c : ax_wp e0 mo 9 44 (0, ax_entry 44 [aR a, aI u], []) τ (ax_ct (fun vv σ2 => ax_wp e0 mo 10 178 (9, [aR a, aI 0, aI u, aU], ax_push vv []) σ2 (ax_ct (jR e0 ms mo τ a b A B ws Z U (oState A u)) (fun _ _ => False))) (fun E σ2 => ax_exc 178 6 (ax_ct (jR e0 ms mo τ a b A B ws Z U (oState A u)) (fun _ _ => False)) E σ2)) := by
    refine jw_use (jj_ro ss_cks (is := [u]) h (fun σ x L rc => ct_44 rc hl.1.1.1 u)) rfl (oState_le A u) (fun i hi => by
    have hi : i < 1 := hi
    obtain rfl : i = 0 := by omega
    rfl) (fun τ2 h0 hp => ?_) (fun τ2 h1 hp => jR_thr h1 hp)
    exact sg_178_9 (d := 9) (sg_178_69 (d := 9) (jR_ret h0 hp))
  exact sg_178_0 (d := 9) ⟨fun _ => ⟨jj_kd h, c⟩, fun z => absurd rfl z⟩
theorem oQRun_le (A : MS) (u : Int32) : (oQRun A u).1.1 ≤ 1 := by
  unfold oQRun
  repeat' apply oc_if
  all_goals first | exact Nat.zero_le _ | exact Nat.succ_le_succ (Nat.zero_le _) | exact Nat.succ_le_succ (Nat.succ_le_succ (Nat.zero_le _)) | exact Nat.succ_le_succ (Nat.succ_le_succ (Nat.succ_le_succ (Nat.zero_le _)))
theorem cw_178_1 (h : jj e0 ms mo τ a b A B ws Z U) (hl : lwA A n) (u : Int32) : ax_ok e0 mo 10 178 [aR a, aI 1, aI u] τ (jR e0 ms mo τ a b A B ws Z U (oQRun A u)) := by
  have c : ax_wp e0 mo 9 51 (0, ax_entry 51 [aR a, aI u], []) τ (ax_ct (fun vv σ2 => ax_wp e0 mo 10 178 (22, [aR a, aI 1, aI u, aU], ax_push vv []) σ2 (ax_ct (jR e0 ms mo τ a b A B ws Z U (oQRun A u)) (fun _ _ => False))) (fun E σ2 => ax_exc 178 19 (ax_ct (jR e0 ms mo τ a b A B ws Z U (oQRun A u)) (fun _ _ => False)) E σ2)) := by
    refine jw_use (jj_ro ss_cks (is := [u]) h (fun σ x L rc => ct_51 rc hl.1 u)) rfl (oQRun_le A u) (fun i hi => by
    have hi : i < 1 := hi
    obtain rfl : i = 0 := by omega
    rfl) (fun τ2 h0 hp => ?_) (fun τ2 h1 hp => jR_thr h1 hp)
    exact sg_178_22 (d := 9) (sg_178_69 (d := 9) (jR_ret h0 hp))
  exact sg_178_0 (d := 9) ⟨fun z => absurd z (by decide), fun _ => ⟨fun _ => ⟨jj_kd h, c⟩, fun z => absurd rfl z⟩⟩
theorem oQStage_le (A : MS) (u : Int32) : (oQStage A u).1.1 ≤ 1 := by
  unfold oQStage
  repeat' apply oc_if
  all_goals first | exact Nat.zero_le _ | exact Nat.succ_le_succ (Nat.zero_le _) | exact Nat.succ_le_succ (Nat.succ_le_succ (Nat.zero_le _)) | exact Nat.succ_le_succ (Nat.succ_le_succ (Nat.succ_le_succ (Nat.zero_le _)))
theorem cw_178_2 (h : jj e0 ms mo τ a b A B ws Z U) (hl : lwA A n) (u : Int32) : ax_ok e0 mo 10 178 [aR a, aI 2, aI u] τ (jR e0 ms mo τ a b A B ws Z U (oQStage A u)) := by
  have c : ax_wp e0 mo 9 52 (0, ax_entry 52 [aR a, aI u], []) τ (ax_ct (fun vv σ2 => ax_wp e0 mo 10 178 (35, [aR a, aI 2, aI u, aU], ax_push vv []) σ2 (ax_ct (jR e0 ms mo τ a b A B ws Z U (oQStage A u)) (fun _ _ => False))) (fun E σ2 => ax_exc 178 32 (ax_ct (jR e0 ms mo τ a b A B ws Z U (oQStage A u)) (fun _ _ => False)) E σ2)) := by
    refine jw_use (jj_ro ss_cks (is := [u]) h (fun σ x L rc => ct_52 rc hl.1 u)) rfl (oQStage_le A u) (fun i hi => by
    have hi : i < 1 := hi
    obtain rfl : i = 0 := by omega
    rfl) (fun τ2 h0 hp => ?_) (fun τ2 h1 hp => jR_thr h1 hp)
    exact sg_178_35 (d := 9) (sg_178_69 (d := 9) (jR_ret h0 hp))
  exact sg_178_0 (d := 9) ⟨fun z => absurd z (by decide), fun _ => ⟨fun z => absurd z (by decide), fun _ => ⟨fun _ => ⟨jj_kd h, c⟩, fun z => absurd rfl z⟩⟩⟩
theorem oWRun_le (A : MS) (u : Int32) : (oWRun A u).1.1 ≤ 1 := by
  unfold oWRun
  repeat' apply oc_if
  all_goals first | exact Nat.zero_le _ | exact Nat.succ_le_succ (Nat.zero_le _) | exact Nat.succ_le_succ (Nat.succ_le_succ (Nat.zero_le _)) | exact Nat.succ_le_succ (Nat.succ_le_succ (Nat.succ_le_succ (Nat.zero_le _)))
theorem cw_178_3 (h : jj e0 ms mo τ a b A B ws Z U) (hl : lwA A n) (u : Int32) : ax_ok e0 mo 10 178 [aR a, aI 3, aI u] τ (jR e0 ms mo τ a b A B ws Z U (oWRun A u)) := by
  have c : ax_wp e0 mo 9 56 (0, ax_entry 56 [aR a, aI u], []) τ (ax_ct (fun vv σ2 => ax_wp e0 mo 10 178 (48, [aR a, aI 3, aI u, aU], ax_push vv []) σ2 (ax_ct (jR e0 ms mo τ a b A B ws Z U (oWRun A u)) (fun _ _ => False))) (fun E σ2 => ax_exc 178 45 (ax_ct (jR e0 ms mo τ a b A B ws Z U (oWRun A u)) (fun _ _ => False)) E σ2)) := by
    refine jw_use (jj_ro ss_cks (is := [u]) h (fun σ x L rc => ct_56 rc hl.1 u)) rfl (oWRun_le A u) (fun i hi => by
    have hi : i < 1 := hi
    obtain rfl : i = 0 := by omega
    rfl) (fun τ2 h0 hp => ?_) (fun τ2 h1 hp => jR_thr h1 hp)
    exact sg_178_48 (d := 9) (sg_178_69 (d := 9) (jR_ret h0 hp))
  exact sg_178_0 (d := 9) ⟨fun z => absurd z (by decide), fun _ => ⟨fun z => absurd z (by decide), fun _ => ⟨fun z => absurd z (by decide), fun _ => ⟨fun _ => ⟨jj_kd h, c⟩, fun z => absurd rfl z⟩⟩⟩⟩
theorem oWStage_le (A : MS) (u : Int32) : (oWStage A u).1.1 ≤ 1 := by
  unfold oWStage
  repeat' apply oc_if
  all_goals first | exact Nat.zero_le _ | exact Nat.succ_le_succ (Nat.zero_le _) | exact Nat.succ_le_succ (Nat.succ_le_succ (Nat.zero_le _)) | exact Nat.succ_le_succ (Nat.succ_le_succ (Nat.succ_le_succ (Nat.zero_le _)))
theorem cw_178_4 (h : jj e0 ms mo τ a b A B ws Z U) (hl : lwA A n) (u : Int32) : ax_ok e0 mo 10 178 [aR a, aI 4, aI u] τ (jR e0 ms mo τ a b A B ws Z U (oWStage A u)) := by
  have c : ax_wp e0 mo 9 57 (0, ax_entry 57 [aR a, aI u], []) τ (ax_ct (fun vv σ2 => ax_wp e0 mo 10 178 (61, [aR a, aI 4, aI u, aU], ax_push vv []) σ2 (ax_ct (jR e0 ms mo τ a b A B ws Z U (oWStage A u)) (fun _ _ => False))) (fun E σ2 => ax_exc 178 58 (ax_ct (jR e0 ms mo τ a b A B ws Z U (oWStage A u)) (fun _ _ => False)) E σ2)) := by
    refine jw_use (jj_ro ss_cks (is := [u]) h (fun σ x L rc => ct_57 rc hl.1 u)) rfl (oWStage_le A u) (fun i hi => by
    have hi : i < 1 := hi
    obtain rfl : i = 0 := by omega
    rfl) (fun τ2 h0 hp => ?_) (fun τ2 h1 hp => jR_thr h1 hp)
    exact sg_178_61 (d := 9) (sg_178_69 (d := 9) (jR_ret h0 hp))
  exact sg_178_0 (d := 9) ⟨fun z => absurd z (by decide), fun _ => ⟨fun z => absurd z (by decide), fun _ => ⟨fun z => absurd z (by decide), fun _ => ⟨fun z => absurd z (by decide), fun _ => ⟨fun _ => ⟨jj_kd h, c⟩, fun z => absurd rfl z⟩⟩⟩⟩⟩
theorem oEStage_le (A : MS) (u : Int32) : (oEStage A u).1.1 ≤ 1 := by
  unfold oEStage
  repeat' apply oc_if
  all_goals first | exact Nat.zero_le _ | exact Nat.succ_le_succ (Nat.zero_le _) | exact Nat.succ_le_succ (Nat.succ_le_succ (Nat.zero_le _)) | exact Nat.succ_le_succ (Nat.succ_le_succ (Nat.succ_le_succ (Nat.zero_le _)))
theorem cw_178_5 (h : jj e0 ms mo τ a b A B ws Z U) (hl : lwA A n) (u : Int32) : ax_ok e0 mo 10 178 [aR a, aI 5, aI u] τ (jR e0 ms mo τ a b A B ws Z U (oEStage A u)) := by
  have c : ax_wp e0 mo 9 59 (0, ax_entry 59 [aR a, aI u], []) τ (ax_ct (fun vv σ2 => ax_wp e0 mo 10 178 (69, [aR a, aI 5, aI u, aU], ax_push vv []) σ2 (ax_ct (jR e0 ms mo τ a b A B ws Z U (oEStage A u)) (fun _ _ => False))) (fun E σ2 => ax_exc 178 66 (ax_ct (jR e0 ms mo τ a b A B ws Z U (oEStage A u)) (fun _ _ => False)) E σ2)) := by
    refine jw_use (jj_ro ss_cks (is := [u]) h (fun σ x L rc => ct_59 rc hl.1.2.2.2.2.2.1 u)) rfl (oEStage_le A u) (fun i hi => by
    have hi : i < 1 := hi
    obtain rfl : i = 0 := by omega
    rfl) (fun τ2 h0 hp => ?_) (fun τ2 h1 hp => jR_thr h1 hp)
    exact sg_178_69 (d := 9) (jR_ret h0 hp)
  exact sg_178_0 (d := 9) ⟨fun z => absurd z (by decide), fun _ => ⟨fun z => absurd z (by decide), fun _ => ⟨fun z => absurd z (by decide), fun _ => ⟨fun z => absurd z (by decide), fun _ => ⟨fun z => absurd z (by decide), fun _ => ⟨jj_kd h, c⟩⟩⟩⟩⟩⟩
theorem oJobState_le (A : MS) (u : Int32) (v : Int32) (w : Int32) : (oJobState A u v w).1.1 ≤ 1 := by
  unfold oJobState
  repeat' apply oc_if
  all_goals first | exact Nat.zero_le _ | exact Nat.succ_le_succ (Nat.zero_le _) | exact Nat.succ_le_succ (Nat.succ_le_succ (Nat.zero_le _)) | exact Nat.succ_le_succ (Nat.succ_le_succ (Nat.succ_le_succ (Nat.zero_le _)))
theorem cw_179_0 (h : jj e0 ms mo τ a b A B ws Z U) (hl : lwA A n) (u : Int32) (v : Int32) (w : Int32) : ax_ok e0 mo 11 179 [aR a, aI 0, aI u, aI v, aI w] τ (jR e0 ms mo τ a b A B ws Z U (oJobState A u v w)) := by
  have c : ax_wp e0 mo 10 45 (0, ax_entry 45 [aR a, aI u, aI v, aI w], []) τ (ax_ct (fun vv σ2 => ax_wp e0 mo 11 179 (12, [aR a, aI 0, aI u, aI v, aI w, aU], ax_push vv []) σ2 (ax_ct (jR e0 ms mo τ a b A B ws Z U (oJobState A u v w)) (fun _ _ => False))) (fun E σ2 => ax_exc 179 9 (ax_ct (jR e0 ms mo τ a b A B ws Z U (oJobState A u v w)) (fun _ _ => False)) E σ2)) := by
    refine jw_use (jj_ro ss_cks (is := [u, v, w]) h (fun σ x L rc => ct_45 rc hl.1.1.1 hl.1.2.2.2.2.1 u v w)) rfl (oJobState_le A u v w) (fun i hi => by
    have hi : i < 1 := hi
    obtain rfl : i = 0 := by omega
    rfl) (fun τ2 h0 hp => ?_) (fun τ2 h1 hp => jR_thr h1 hp)
    exact sg_179_12 (d := 10) (sg_179_54 (d := 10) (jR_ret h0 hp))
  exact sg_179_0 (d := 10) ⟨fun _ => ⟨jj_kd h, c⟩, fun z => absurd rfl z⟩
theorem oAttempts_le (A : MS) (u : Int32) (v : Int32) (w : Int32) : (oAttempts A u v w).1.1 ≤ 1 := by
  unfold oAttempts
  repeat' apply oc_if
  all_goals first | exact Nat.zero_le _ | exact Nat.succ_le_succ (Nat.zero_le _) | exact Nat.succ_le_succ (Nat.succ_le_succ (Nat.zero_le _)) | exact Nat.succ_le_succ (Nat.succ_le_succ (Nat.succ_le_succ (Nat.zero_le _)))
theorem cw_179_1 (h : jj e0 ms mo τ a b A B ws Z U) (hl : lwA A n) (u : Int32) (v : Int32) (w : Int32) : ax_ok e0 mo 11 179 [aR a, aI 1, aI u, aI v, aI w] τ (jR e0 ms mo τ a b A B ws Z U (oAttempts A u v w)) := by
  have c : ax_wp e0 mo 10 46 (0, ax_entry 46 [aR a, aI u, aI v, aI w], []) τ (ax_ct (fun vv σ2 => ax_wp e0 mo 11 179 (28, [aR a, aI 1, aI u, aI v, aI w, aU], ax_push vv []) σ2 (ax_ct (jR e0 ms mo τ a b A B ws Z U (oAttempts A u v w)) (fun _ _ => False))) (fun E σ2 => ax_exc 179 25 (ax_ct (jR e0 ms mo τ a b A B ws Z U (oAttempts A u v w)) (fun _ _ => False)) E σ2)) := by
    refine jw_use (jj_ro ss_cks (is := [u, v, w]) h (fun σ x L rc => ct_46 rc hl.1.1.1 hl.1.2.2.2.2.1 u v w)) rfl (oAttempts_le A u v w) (fun i hi => by
    have hi : i < 1 := hi
    obtain rfl : i = 0 := by omega
    rfl) (fun τ2 h0 hp => ?_) (fun τ2 h1 hp => jR_thr h1 hp)
    exact sg_179_28 (d := 10) (sg_179_54 (d := 10) (jR_ret h0 hp))
  exact sg_179_0 (d := 10) ⟨fun z => absurd z (by decide), fun _ => ⟨fun _ => ⟨jj_kd h, c⟩, fun z => absurd rfl z⟩⟩
theorem oRestored_le (A : MS) (u : Int32) (v : Int32) (w : Int32) : (oRestored A u v w).1.1 ≤ 1 := by
  unfold oRestored
  repeat' apply oc_if
  all_goals first | exact Nat.zero_le _ | exact Nat.succ_le_succ (Nat.zero_le _) | exact Nat.succ_le_succ (Nat.succ_le_succ (Nat.zero_le _)) | exact Nat.succ_le_succ (Nat.succ_le_succ (Nat.succ_le_succ (Nat.zero_le _)))
theorem cw_179_2 (h : jj e0 ms mo τ a b A B ws Z U) (hl : lwA A n) (u : Int32) (v : Int32) (w : Int32) : ax_ok e0 mo 11 179 [aR a, aI 2, aI u, aI v, aI w] τ (jR e0 ms mo τ a b A B ws Z U (oRestored A u v w)) := by
  have c : ax_wp e0 mo 10 47 (0, ax_entry 47 [aR a, aI u, aI v, aI w], []) τ (ax_ct (fun vv σ2 => ax_wp e0 mo 11 179 (44, [aR a, aI 2, aI u, aI v, aI w, aU], ax_push vv []) σ2 (ax_ct (jR e0 ms mo τ a b A B ws Z U (oRestored A u v w)) (fun _ _ => False))) (fun E σ2 => ax_exc 179 41 (ax_ct (jR e0 ms mo τ a b A B ws Z U (oRestored A u v w)) (fun _ _ => False)) E σ2)) := by
    refine jw_use (jj_ro ss_cks (is := [u, v, w]) h (fun σ x L rc => ct_47 rc hl.1.1.1 hl.1.2.2.2.2.1 u v w)) rfl (oRestored_le A u v w) (fun i hi => by
    have hi : i < 1 := hi
    obtain rfl : i = 0 := by omega
    rfl) (fun τ2 h0 hp => ?_) (fun τ2 h1 hp => jR_thr h1 hp)
    exact sg_179_44 (d := 10) (sg_179_54 (d := 10) (jR_ret h0 hp))
  exact sg_179_0 (d := 10) ⟨fun z => absurd z (by decide), fun _ => ⟨fun z => absurd z (by decide), fun _ => ⟨fun _ => ⟨jj_kd h, c⟩, fun z => absurd rfl z⟩⟩⟩
theorem oEInput_le (A : MS) (u : Int32) (v : Int32) : (oEInput A u v).1.1 ≤ 1 := by
  unfold oEInput
  repeat' apply oc_if
  all_goals first | exact Nat.zero_le _ | exact Nat.succ_le_succ (Nat.zero_le _) | exact Nat.succ_le_succ (Nat.succ_le_succ (Nat.zero_le _)) | exact Nat.succ_le_succ (Nat.succ_le_succ (Nat.succ_le_succ (Nat.zero_le _)))
theorem cw_179_3 (h : jj e0 ms mo τ a b A B ws Z U) (hl : lwA A n) (u : Int32) (v : Int32) (w : Int32) : ax_ok e0 mo 11 179 [aR a, aI 3, aI u, aI v, aI w] τ (jR e0 ms mo τ a b A B ws Z U (oEInput A u w)) := by
  have c : ax_wp e0 mo 10 60 (0, ax_entry 60 [aR a, aI u, aI w], []) τ (ax_ct (fun vv σ2 => ax_wp e0 mo 11 179 (54, [aR a, aI 3, aI u, aI v, aI w, aU], ax_push vv []) σ2 (ax_ct (jR e0 ms mo τ a b A B ws Z U (oEInput A u w)) (fun _ _ => False))) (fun E σ2 => ax_exc 179 51 (ax_ct (jR e0 ms mo τ a b A B ws Z U (oEInput A u w)) (fun _ _ => False)) E σ2)) := by
    refine jw_use (jj_ro ss_cks (is := [u, w]) h (fun σ x L rc => ct_60 rc hl.1.2.2.2.2.2.1 u w)) rfl (oEInput_le A u w) (fun i hi => by
    have hi : i < 1 := hi
    obtain rfl : i = 0 := by omega
    rfl) (fun τ2 h0 hp => ?_) (fun τ2 h1 hp => jR_thr h1 hp)
    exact sg_179_54 (d := 10) (jR_ret h0 hp)
  exact sg_179_0 (d := 10) ⟨fun z => absurd z (by decide), fun _ => ⟨fun z => absurd z (by decide), fun _ => ⟨fun z => absurd z (by decide), fun _ => ⟨jj_kd h, c⟩⟩⟩⟩
theorem oSetMarks_le (A : MS) (u : Int32) (x : Bool) (y : Bool) (z : Bool) : (oSetMarks A u x y z).1.1 ≤ 2 := by
  unfold oSetMarks
  repeat' apply oc_if
  all_goals first | exact Nat.zero_le _ | exact Nat.succ_le_succ (Nat.zero_le _) | exact Nat.succ_le_succ (Nat.succ_le_succ (Nat.zero_le _)) | exact Nat.succ_le_succ (Nat.succ_le_succ (Nat.succ_le_succ (Nat.zero_le _)))
theorem oSetMarks_ex (A : MS) (u : Int32) (x : Bool) (y : Bool) (z : Bool) : 1 ≤ (oSetMarks A u x y z).1.1 → (oSetMarks A u x y z).2 = A := by
  unfold oSetMarks
  repeat' apply oc_ex
  all_goals first | exact fun _ => rfl | exact fun z => absurd z (Nat.not_succ_le_zero _)
end
end AXCW1
