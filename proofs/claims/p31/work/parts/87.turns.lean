/-! The law's turns: a push, a cancelling, or a worker's doing, on both; and all is alike. -/
section AXTU
section
variable {e0 ms mo scr len a b pa : Nat} {p q : Nat → Nat} {τ : SG} {A A' : MS} {n Z U : Nat}
/-- 0 takes, 1 passes, 2 fails, another loses -/
def oWk (t : Nat) (A : MS) (w : Nat) : OC := match t with
  | 0 => oTake A (nI w)
  | 1 => oFinish A (nI w) true
  | 2 => oFinish A (nI w) false
  | _ => oLose A (nI w)
theorem lf_wk (h : lv e0 ms mo scr len a b pa p q τ A n Z U) {t : Nat} (ht : t < 4) (w : Nat) : ax_ok e0 mo 11 177 [aR a, aI (nI t), aI (nI w)] τ (fun v τ2 => v = aI (an (oWk t A w)) ∧ lx e0 ms mo scr len a b pa p q τ2 A (oWk t A w).2 n (Z + 390) (U + 6000)) := by
  have e : t = 0 ∨ t = 1 ∨ t = 2 ∨ t = 3 := by omega
  rcases e with rfl | rfl | rfl | rfl
  · exact lf_wt h w
  · exact lf_wp h w
  · exact lf_wf h w
  · exact lf_wl h w
theorem ls_wk (hp : pq p q) {w t : Nat} (hw : w < 4) (hpw : p w < 4) (ht : t < 4) (h : lx e0 ms mo scr len a b pa p q τ A (oWk t A w).2 n Z U) : ax_ok e0 mo 11 177 [aR b, aI (nI t), aI (nI (p w))] τ (fun v τ2 => v = aI (an (oWk t A w)) ∧ lv e0 ms mo scr len a b pa p q τ2 (oWk t A w).2 (n + 1) (Z + 390) (U + 6000)) := by
  have e : t = 0 ∨ t = 1 ∨ t = 2 ∨ t = 3 := by omega
  rcases e with rfl | rfl | rfl | rfl
  · exact ls_wt hp hw hpw h
  · exact ls_wp hp hw hpw h
  · exact ls_wf hp hw hpw h
  · exact ls_wl hp hw hpw h
/-- the number of runs between the two calls of a pair -/
theorem rx_runs (h : lx e0 ms mo scr len a b pa p q τ A A' n Z U) : ax_ok e0 mo 1 43 [aR a] τ (fun v τ2 => v = aI (nI (mR A')) ∧ lx e0 ms mo scr len a b pa p q τ2 A A' n Z U) := by
  refine ax_post (jj_ro ss_cks (is := []) (X := []) (o := ((0, nI (mR A')), A')) h.1 (fun σ x L rc => ct_43 rc)) fun r τ2 hr => ?_
  rcases r with v | E
  · obtain ⟨-, rfl, h1, k⟩ := hr
    exact ⟨rfl, h1, h.2.1, h.2.2.1, lK k h.2.2.2⟩
  · exact absurd hr.1 (show ¬ (1 : Nat) ≤ 0 by decide)
theorem lx_kd (h : lx e0 ms mo scr len a b pa p q τ A A' n Z U) : (sgK τ a).1 = 6 := jj_kd h.1
theorem cancel_mR (x : Int32) : mR (oCancel A x).2 = mR A := by
  unfold oCancel
  cases inB x (mR A)
  · rfl
  · cases Nat.beq (mU A 11 x.toNatClampNeg) 7
    · rfl
    · show (mFol (mCan A x.toNatClampNeg) x.toNatClampNeg).1 10 0 0 0 = A.1 10 0 0 0
      rw [mFol_lo 10 0 0 0 (by decide) (by decide)]
      rfl
/-- where a turn ends -/
theorem la_alike (hp : pq p q) (hp4 : ∀ w, w < 4 → p w < 4) {l4 l6 l7 l8 l9 : Int32} {l10 : AV} {Q : Res → SG → Prop} (K : ∀ τ2, lv e0 ms mo scr len a b pa p q τ2 A n (Z + 98) (U + 588) → ax_wp e0 mo 14 195 (571, [aR scr, aR a, aR b, aR pa, aI l4, aI 1, aI l6, aI l7, aI l8, aI l9, l10], []) τ2 Q) (h : lv e0 ms mo scr len a b pa p q τ A n Z U) : ax_wp e0 mo 14 195 (532, [aR scr, aR a, aR b, aR pa, aI l4, aI 1, aI l6, aI l7, aI l8, aI l9, l10], []) τ Q := by
  have last : ∀ τ2, lv e0 ms mo scr len a b pa p q τ2 A n (Z + 98) (U + 588) → ax_wp e0 mo 14 195 (561, [aR scr, aR a, aR b, aR pa, aI l4, aI 1, aI l6, aI l7, aI l8, aI l9, l10], [aI 1]) τ2 Q := fun τ2 h2 => sg_195_561 (d := 13) ⟨fun z => absurd z (by decide), fun _ => K τ2 h2⟩
  refine sg_195_532 (d := 13) ⟨fun z => absurd z (by decide), fun _ => ⟨lv_kd h, ax_use (ra_runs h) rfl fun v τ1 hv => ?_⟩⟩
  obtain ⟨rfl, h1⟩ := hv
  refine sg_195_544 (d := 13) ⟨fun _ => ax_use (ct_150 hp hp4 h1 0) rfl fun v τ2 hv => ?_, fun _ => ⟨lv_kd h1, ax_use (ra_runs h1) rfl fun v τ2 hv => ?_⟩⟩
  · obtain ⟨rfl, h2⟩ := hv
    exact last τ2 h2
  · obtain ⟨rfl, h2⟩ := hv
    rename_i hn
    refine sg_195_557 (d := 13) ⟨hn, ax_use (ct_150 hp hp4 h2 _) rfl fun v τ3 hv => ?_⟩
    obtain ⟨rfl, h3⟩ := hv
    exact last τ3 h3
/-- a worker's turn -/
theorem la_work (hp : pq p q) (hp4 : ∀ w, w < 4 → p w < 4) {l4 l6 l7 l8 : Int32} {y t : Nat} (hy : y < 2 ^ 31) (ht : t < 4) {Q : Res → SG → Prop} (K : ∀ (τ2 : SG) (A2 : MS) (l10 : AV), lv e0 ms mo scr len a b pa p q τ2 A2 (n + 1) (Z + 780) (U + 12000) → ax_wp e0 mo 14 195 (532, [aR scr, aR a, aR b, aR pa, aI l4, aI 1, aI l6, aI l7, aI l8, aI (nI y), l10], []) τ2 Q) (h : lv e0 ms mo scr len a b pa p q τ A n Z U) : ax_wp e0 mo 14 195 (500, [aR scr, aR a, aR b, aR pa, aI l4, aI 1, aI l6, aI l7, aI l8, aI (nI y), aI (nI t)], []) τ Q := by
  have hw : y % 4 < 4 := Nat.mod_lt _ (by decide)
  have ew : nI y - nI y / 4 * 4 = nI (y % 4) := pk_rem (d := 4) hy (by decide) (by decide)
  refine sg_195_500 (d := 13) ⟨by decide, ?_⟩
  rw [ew]
  refine ax_use (lf_wk h ht _) rfl fun v τ1 hv => ?_
  obtain ⟨rfl, h1⟩ := hv
  refine sg_195_510 (d := 13) ⟨by decide, ?_⟩
  rw [ew, nI_clamp (show y % 4 < 2 ^ 31 by omega), h1.2.2.2.2.1 _ hw]
  refine ⟨ax_in_nI h1.2.2.2.1 hw (by decide), ax_use (ls_wk hp hw (hp4 _ hw) ht h1) rfl fun v τ2 hv => ?_⟩
  obtain ⟨rfl, h2⟩ := hv
  exact sg_195_522 (d := 13) ⟨fun _ => K τ2 _ _ (lv_le h2 (by omega) (by omega)), fun z => absurd rfl z⟩
/-- one turn -/
theorem la_turn (hp : pq p q) (hp4 : ∀ w, w < 4 → p w < 4) {l4 l6 l7 l8 : Int32} {l10 : AV} {y : Nat} (hy : y < 2 ^ 31) {Q : Res → SG → Prop} (K : ∀ (τ2 : SG) (A2 : MS) (l10 : AV), lv e0 ms mo scr len a b pa p q τ2 A2 (n + 1) (Z + 878) (U + 12588) → ax_wp e0 mo 14 195 (571, [aR scr, aR a, aR b, aR pa, aI l4, aI 1, aI l6, aI l7, aI l8, aI (nI y), l10], []) τ2 Q) (h : lv e0 ms mo scr len a b pa p q τ A n Z U) : ax_wp e0 mo 14 195 (344, [aR scr, aR a, aR b, aR pa, aI l4, aI 1, aI l6, aI l7, aI l8, aI (nI y), l10], []) τ Q := by
  have last : ∀ (τ2 : SG) (A2 : MS) (l10 : AV), lv e0 ms mo scr len a b pa p q τ2 A2 (n + 1) (Z + 780) (U + 12000) → ax_wp e0 mo 14 195 (532, [aR scr, aR a, aR b, aR pa, aI l4, aI 1, aI l6, aI l7, aI l8, aI (nI y), l10], []) τ2 Q := fun τ2 A2 l10 h2 => la_alike hp hp4 (fun τ3 h3 => K τ3 A2 l10 h3) h2
  have work : ∀ t, t < 4 → ax_wp e0 mo 14 195 (500, [aR scr, aR a, aR b, aR pa, aI l4, aI 1, aI l6, aI l7, aI l8, aI (nI y), aI (nI t)], []) τ Q := fun t ht => la_work hp hp4 hy ht last h
  refine sg_195_344 (d := 13) ⟨fun _ => ⟨by decide, by decide, by decide, by decide, by decide, by decide, by decide, ax_use (lf_push h _ _ _ _) rfl fun v τ1 hv => ?_⟩, fun _ => sg_195_419 (d := 13) ⟨fun _ => ⟨lv_kd h, ax_use (ra_runs h) rfl fun v τ1 hv => ?_⟩, fun _ => sg_195_464 (d := 13) ⟨fun _ => work 0 (by decide), fun _ => ⟨fun _ => work 1 (by decide), fun _ => ⟨fun _ => work 2 (by decide), fun _ => work 3 (by decide)⟩⟩⟩⟩⟩
  · obtain ⟨rfl, h1⟩ := hv
    refine sg_195_378 (d := 13) ⟨by decide, by decide, by decide, by decide, by decide, by decide, by decide, ax_use (ls_push h1) rfl fun v τ2 hv => ?_⟩
    obtain ⟨rfl, h2⟩ := hv
    exact sg_195_406 (d := 13) ⟨fun _ => last τ2 _ _ (lv_le h2 (by omega) (by omega)), fun z => absurd rfl z⟩
  · obtain ⟨rfl, h1⟩ := hv
    have hR := mR_lt h.2.1
    have n0 : ¬ nI (mR A) + 1 = 0 := fun z => by
      rw [nI_1] at z
      have := (nI_eq (b := 0) (by omega) (by decide)).mp z
      omega
    refine sg_195_432 (d := 13) ⟨n0, ax_use (lf_cancel h1 _) rfl fun v τ2 hv => ?_⟩
    obtain ⟨rfl, h2⟩ := hv
    refine sg_195_438 (d := 13) ⟨lx_kd h2, ax_use (rx_runs h2) rfl fun v τ3 hv => ?_⟩
    obtain ⟨rfl, h3⟩ := hv
    rw [cancel_mR]
    refine sg_195_445 (d := 13) ⟨n0, ax_use (ls_cancel h3) rfl fun v τ4 hv => ?_⟩
    obtain ⟨rfl, h4⟩ := hv
    exact sg_195_451 (d := 13) ⟨fun _ => last τ4 _ _ (lv_le h4 (by omega) (by omega)), fun z => absurd rfl z⟩
/-- all turns -/
theorem la_turns (hp : pq p q) (hp4 : ∀ w, w < 4 → p w < 4) (hl : len < 2 ^ 31) {l4 : Int32} {Z0 U0 : Nat} {Q : Res → SG → Prop} (K : ∀ (τ2 : SG) (A2 : MS) (n2 : Nat) (l7 l8 l9 l10 : AV), lv e0 ms mo scr len a b pa p q τ2 A2 n2 (Z0 + 878 * 175) (U0 + 12588 * 175) → ax_wp e0 mo 14 195 (577, [aR scr, aR a, aR b, aR pa, aI l4, aI 1, aI (nI 180), l7, l8, l9, l10], []) τ2 Q) :
    ∀ d i (τ : SG) (A : MS) (n : Nat) (l7 l8 l9 l10 : AV), i + d = 175 → lv e0 ms mo scr len a b pa p q τ A n (Z0 + 878 * i) (U0 + 12588 * i) → ax_wp e0 mo 14 195 (289, [aR scr, aR a, aR b, aR pa, aI l4, aI 1, aI (nI (5 + i)), l7, l8, l9, l10], []) τ Q := by
  intro d
  induction d with
  | zero =>
    intro i τ A n l7 l8 l9 l10 hi h
    obtain rfl : i = 175 := by omega
    exact sg_195_289 (d := 13) ⟨fun z => absurd z (by decide), fun _ => K τ A n l7 l8 l9 l10 h⟩
  | succ d ih =>
    intro i τ A n l7 l8 l9 l10 hi h
    have hi2 : 5 + i < 180 := by omega
    have e60 : nI (5 + i) - nI (5 + i) / 60 * 60 = nI ((5 + i) % 60) := pk_rem (d := 60) (by omega) (by decide) (by decide)
    have d60 : nI (5 + i) / 60 = nI ((5 + i) / 60) := pk_div (d := 60) (by omega) (by decide) (by decide)
    have hc : (5 + i) / 60 ≤ 2 := by omega
    refine sg_195_289 (d := 13) ⟨fun _ => ⟨fun z => absurd z (by decide), fun _ => ⟨by decide, ?_⟩⟩, fun z => absurd (nI_lt (b := 180) hi2 (by decide)) z⟩
    rw [e60]
    refine ax_use (ct_149 (f := fun i => sgI τ 25 i scr) h.2.2.2.2.2 (fun _ => rfl) hl (by omega)) rfl fun v τ1 hv => ?_
    obtain ⟨rfl, rfl⟩ := hv
    obtain ⟨z, hz, ez⟩ := drw_nat (fun i => sgI τ1 25 i scr) len ((5 + i) % 60)
    rw [ez]
    have e1 : (1 : Int32) + nI (5 + i) / 60 = nI (1 + (5 + i) / 60) := by rw [d60]; exact nI_add 1 _
    have ex : nI z / ((1 : Int32) + nI (5 + i) / 60) + (17 : Int32) * (nI (5 + i) / 60) = nI (z / (1 + (5 + i) / 60) + 17 * ((5 + i) / 60)) := by
      rw [e1, d60, pk_div hz (by omega) (by omega), show (17 : Int32) * nI ((5 + i) / 60) = nI (17 * ((5 + i) / 60)) from pk_mul 17 _, nI_add]
    have hx : z / (1 + (5 + i) / 60) + 17 * ((5 + i) / 60) < 2 ^ 31 := by
      have c : (5 + i) / 60 = 0 ∨ (5 + i) / 60 = 1 ∨ (5 + i) / 60 = 2 := by omega
      rcases c with c | c | c
      · rw [c]; omega
      · rw [c]; omega
      · rw [c]; omega
    have n0 : ¬ (1 : Int32) + nI (5 + i) / 60 = 0 := fun y => by
      rw [e1] at y
      have := (nI_eq (b := 0) (by omega) (by decide)).mp y
      omega
    refine sg_195_311 (d := 13) ⟨by decide, n0, by decide, ?_⟩
    rw [ex]
    generalize z / (1 + (5 + i) / 60) + 17 * ((5 + i) / 60) = y at hx ⊢
    refine sg_195_332 (d := 13) ⟨by decide, sg_195_337 (d := 13) ⟨by decide, ?_⟩⟩
    rw [show nI y / 14 = nI (y / 14) from pk_div (d := 14) hx (by decide) (by decide)]
    refine la_turn hp hp4 (show y / 14 < 2 ^ 31 by omega) (fun τ2 A2 l10 h2 => ?_) h
    refine sg_195_571 (d := 13) ?_
    rw [nI_1]
    exact ih (i + 1) τ2 A2 (n + 1) _ _ _ _ (by omega) (lv_le h2 (by omega) (by omega))
/-- all runs are compared once more -/
theorem la_last (hp : pq p q) (hp4 : ∀ w, w < 4 → p w < 4) {l4 : Int32} {l7 l8 l9 l10 : AV} {Z0 U0 : Nat} {Q : Res → SG → Prop} (hA : mR A ≤ 80) (K : ∀ τ2, lv e0 ms mo scr len a b pa p q τ2 A n (Z0 + 98 * mR A) (U0 + 588 * mR A) → Q (.inl (aI 1)) τ2) :
    ∀ d k (τ : SG), k + d = mR A → lv e0 ms mo scr len a b pa p q τ A n (Z0 + 98 * k) (U0 + 588 * k) → ax_wp e0 mo 14 195 (580, [aR scr, aR a, aR b, aR pa, aI l4, aI 1, aI (nI k), l7, l8, l9, l10], []) τ Q := by
  intro d
  induction d with
  | zero =>
    intro k τ hk h
    obtain rfl : k = mR A := by omega
    refine sg_195_580 (d := 13) ⟨lv_kd h, ax_use (ra_runs h) rfl fun v τ1 hv => ?_⟩
    obtain ⟨rfl, h1⟩ := hv
    exact sg_195_586 (d := 13) ⟨fun z => absurd z (nI_nlt (Nat.le_refl _) (by omega)), fun _ => sg_195_610 (d := 13) ⟨Or.inr rfl, K τ1 h1⟩⟩
  | succ d ih =>
    intro k τ hk h
    refine sg_195_580 (d := 13) ⟨lv_kd h, ax_use (ra_runs h) rfl fun v τ1 hv => ?_⟩
    obtain ⟨rfl, h1⟩ := hv
    refine sg_195_586 (d := 13) ⟨fun _ => ⟨fun z => absurd z (by decide), fun _ => ax_use (ct_150 hp hp4 h1 _) rfl fun v τ2 hv => ?_⟩, fun z => absurd (nI_lt (show k < mR A by omega) (by omega)) z⟩
    obtain ⟨rfl, h2⟩ := hv
    refine sg_195_602 (d := 13) ?_
    rw [nI_1]
    exact ih (k + 1) τ2 (by omega) (lv_le h2 (by omega) (by omega))
end
end AXTU
