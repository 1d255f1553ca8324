/-! The law's numbers, its permutation, and the making of stages. -/
section AXLA
section
variable {e0 ms mo scr len a b pa : Nat} {p q : Nat → Nat} {τ : SG} {A : MS} {n Z U : Nat}
/-- a drawn number -/
def drw (f : Nat → Int32) (len k : Nat) : Int32 := if k < len then f k &&& 2147483647 else ((12101 : Int32) * nI k + 1409) &&& 2147483647
theorem drw_nat (f : Nat → Int32) (len k : Nat) : ∃ z : Nat, z < 2 ^ 31 ∧ drw f len k = nI z := by
  unfold drw
  split
  · exact pk_andE _ 31 (by decide)
  · exact pk_andE _ 31 (by decide)
theorem ct_149 {f : Nat → Int32} (hk : sgK τ scr = (25, len)) (hf : ∀ i, sgI τ 25 i scr = f i) (hl : len < 2 ^ 31) {k : Nat} (hk2 : k < 2 ^ 31) : ax_ok e0 mo 0 149 [aR scr, aI (nI k)] τ (fun w τ2 => w = aI (drw f len k) ∧ τ2 = τ) := by
  refine sg_149_0 ?_
  rw [hk]
  refine ⟨⟨show (20 : Nat) ≤ 25 by decide, show (25 : Nat) < 26 by decide⟩, fun h => ?_, fun h => ?_⟩
  · have h2 : k < len := (nI_ltI hk2 hl).mp h
    refine ⟨ax_in_nI hk h2 hl, ?_, rfl⟩
    rw [nI_clamp hk2, hf]
    unfold drw
    rw [if_pos h2]
  · have h2 : ¬ k < len := fun z => h (nI_lt z hl)
    refine ⟨?_, rfl⟩
    unfold drw
    rw [if_neg h2]
-- the permutation
def pp (z : Nat) (w : Nat) : Nat := if w < 4 then (if z / 4 % 2 = 0 then (w + z % 4) % 4 else (z % 4 + 4 - w) % 4) else w
def qq (z : Nat) (w : Nat) : Nat := if w < 4 then (if z / 4 % 2 = 0 then (w + 4 - z % 4) % 4 else (z % 4 + 4 - w) % 4) else w
theorem pp_lt (z : Nat) : ∀ w, w < 4 → pp z w < 4 := fun w hw => by
  unfold pp
  rw [if_pos hw]
  split <;> exact Nat.mod_lt _ (by decide)
theorem qq_lt (z : Nat) : ∀ w, w < 4 → qq z w < 4 := fun w hw => by
  unfold qq
  rw [if_pos hw]
  split <;> exact Nat.mod_lt _ (by decide)
theorem pq_z (z : Nat) : pq (pp z) (qq z) := by
  have ht : z % 4 < 4 := Nat.mod_lt _ (by decide)
  refine ⟨fun w => ?_, fun w => ?_⟩
  · by_cases h : w < 4
    · have h1 := pp_lt z w h
      unfold qq
      rw [if_pos h1]
      unfold pp
      rw [if_pos h]
      by_cases c : z / 4 % 2 = 0
      · rw [if_pos c, if_pos c]; omega
      · rw [if_neg c, if_neg c]; omega
    · unfold qq pp
      rw [if_neg h, if_neg h]
  · by_cases h : w < 4
    · have h1 := qq_lt z w h
      unfold pp
      rw [if_pos h1]
      unfold qq
      rw [if_pos h]
      by_cases c : z / 4 % 2 = 0
      · rw [if_pos c, if_pos c]; omega
      · rw [if_neg c, if_neg c]; omega
    · unfold qq pp
      rw [if_neg h, if_neg h]
/-- the row of the permutation is filled -/
theorem la_fill {f : Nat → Int32} {z : Nat} (hz : z < 2 ^ 31) (hd : drw f len 0 = nI z) (hl : len < 2 ^ 31) (hne : pa ≠ e0) (hps : pa ≠ scr) {B : MS} {Q : Res → SG → Prop}
    (K : ∀ τ2, jj e0 ms mo τ2 a b A B [pa, scr] Z U → sgK τ2 pa = (20, 4) → (∀ w, w < 4 → sgI τ2 20 w pa = nI (pp z w)) → sgK τ2 scr = (25, len) → (∀ i, sgI τ2 25 i scr = f i) → ax_wp e0 mo 14 195 (77, [aR scr, aR a, aR b, aR pa, aI (nI (z % 4)), aI (nI 4), aU, aU, aU, aU, aU], []) τ2 Q) :
    ∀ d k (τ : SG), k + d = 4 → jj e0 ms mo τ a b A B [pa, scr] Z U → sgK τ pa = (20, 4) → (∀ w, w < k → sgI τ 20 w pa = nI (pp z w)) → sgK τ scr = (25, len) → (∀ i, sgI τ 25 i scr = f i) → ax_wp e0 mo 14 195 (32, [aR scr, aR a, aR b, aR pa, aI (nI (z % 4)), aI (nI k), aU, aU, aU, aU, aU], []) τ Q := by
  have ht : z % 4 < 4 := Nat.mod_lt _ (by decide)
  intro d
  induction d with
  | zero =>
    intro k τ hk h h1 h2 h3 h4
    obtain rfl : k = 4 := by omega
    exact sg_195_32 (d := 13) ⟨fun z => absurd z (by decide), fun _ => K τ h h1 h2 h3 h4⟩
  | succ d ih =>
    intro k τ hk h h1 h2 h3 h4
    have hk4 : k < 4 := by omega
    refine sg_195_32 (d := 13) ⟨fun _ => ax_use (ct_149 (k := 0) h3 h4 hl (by decide)) rfl fun v τ1 hv => ?_, fun z => absurd (nI_lt (b := 4) hk4 (by decide)) z⟩
    obtain ⟨rfl, rfl⟩ := hv
    rw [hd]
    have e4 : nI z / 4 = nI (z / 4) := pk_div (d := 4) hz (by decide) (by decide)
    have e2 : nI (z / 4) - nI (z / 4) / 2 * 2 = nI (z / 4 % 2) := pk_rem (d := 2) (by omega) (by decide) (by decide)
    have c : (nI k).toNatClampNeg = k := nI_clamp (by omega)
    have fin : ∀ x : Int32, x = nI (pp z k) → ax_wp e0 mo 14 195 (32, [aR scr, aR a, aR b, aR pa, aI (nI (z % 4)), aI (nI k + 1), aU, aU, aU, aU, aU], []) (putI τ1 20 (nI k).toNatClampNeg pa x) Q := fun x hx => by
      rw [c, nI_1]
      refine ih (k + 1) _ (by omega) (jj_wI h List.mem_cons_self hne 20 k x) h1 (fun w hw => ?_) h3 (fun i => ?_)
      · rw [gI_putI]
        by_cases y : w = k
        · rw [if_pos ⟨rfl, y, rfl⟩, y, hx]
        · rw [if_neg (fun u => y u.2.1)]
          exact h2 w (by omega)
      · rw [gI_putI, if_neg (fun u => absurd u.1 (by decide))]
        exact h4 i
    refine sg_195_46 (d := 13) ⟨by decide, by decide, fun y => ⟨by decide, ax_in_nI h1 hk4 (by decide), fin _ ?_⟩, fun y => ⟨by decide, ax_in_nI h1 hk4 (by decide), fin _ ?_⟩⟩
    · rw [e4, e2] at y
      have y : z / 4 % 2 = 0 := (nI_eq (b := 0) (by omega) (by decide)).mp y
      unfold pp
      rw [if_pos hk4, if_pos y, nI_add]
      exact pk_rem (d := 4) (by omega) (by decide) (by decide)
    · rw [e4, e2] at y
      have y : ¬ z / 4 % 2 = 0 := fun u => y (by rw [u]; rfl)
      unfold pp
      rw [if_pos hk4, if_neg y, show nI (z % 4) + 4 = nI (z % 4 + 4) from nI_add _ 4, pk_sub (by omega)]
      exact pk_rem (d := 4) (by omega) (by decide) (by decide)
-- the stages
theorem go_0 (hR : mR A = 0) : mGo A = 0 := by
  show ax_n (mGb A) (mR A) = 0
  rw [hR]
  rfl
theorem in14_n {x : Nat} (h1 : 1 ≤ x) (h2 : x ≤ 4) : in14 (nI x) = true := by
  have e : x = 1 ∨ x = 2 ∨ x = 3 ∨ x = 4 := by omega
  rcases e with rfl | rfl | rfl | rfl <;> decide
theorem add_yes (hR : mR A = 0) (hN : mN A < 8) {x y : Nat} (x1 : 1 ≤ x) (x4 : x ≤ 4) (y1 : 1 ≤ y) (y4 : y ≤ 4) : mN (oAddStage A (nI x) (nI y)).2 = mN A + 1 ∧ mR (oAddStage A (nI x) (nI y)).2 = 0 := by
  have e : oAddStage A (nI x) (nI y) = ((0, nI (mN A)), mAddS A (nI x).toNatClampNeg (nI y).toNatClampNeg) := by
    unfold oAddStage
    rw [in14_n x1 x4, in14_n y1 y4, go_0 hR, show Nat.blt (mN A) 8 = true from Nat.blt_eq.mpr hN]
    rfl
  rw [e]
  exact ⟨mUp_at _ 0 0 0 0 _, hR⟩
theorem set_nr (x y z : Int32) : mN (oSetStage A x y z).2 = mN A ∧ mR (oSetStage A x y z).2 = mR A := by
  unfold oSetStage
  cases inB x (mN A)
  · exact ⟨rfl, rfl⟩
  · cases (in02 y && in03 z)
    · exact ⟨rfl, rfl⟩
    · cases Nat.beq (mGo A) 0
      · exact ⟨rfl, rfl⟩
      · exact ⟨rfl, rfl⟩
theorem need_nr (x y : Int32) : mN (oNeed A x y).2 = mN A ∧ mR (oNeed A x y).2 = mR A := by
  unfold oNeed
  cases (inB x (mN A) && inB y (mN A))
  · exact ⟨rfl, rfl⟩
  · cases needB A x.toNatClampNeg y.toNatClampNeg
    · exact ⟨rfl, rfl⟩
    · exact ⟨rfl, rfl⟩
theorem mk_yes (hR : mR A = 0) {k : Nat} (hk : k < mN A) (hN : mN A ≤ 8) (m : Int32) : mn (oMk A (nI k) m) = 1 ∧ mN (oMk A (nI k) m).2 = mN A ∧ mR (oMk A (nI k) m).2 = 0 := by
  have e : oMk A (nI k) m = ((0, 0), mSetM A (nI k).toNatClampNeg (mx m) (my m) (mz m)) := by
    unfold oMk oSetMarks
    rw [inBn hk (by omega), go_0 hR]
    rfl
  rw [e]
  exact ⟨rfl, rfl, hR⟩
/-- the four stages -/
theorem la_stages (hl : len < 2 ^ 31) {l4 : Int32} {Z0 U0 : Nat} {Q : Res → SG → Prop}
    (K : ∀ (τ2 : SG) (A2 : MS) (l7 : AV), lv e0 ms mo scr len a b pa p q τ2 A2 16 (Z0 + 12480) (U0 + 192000) → ax_wp e0 mo 14 195 (286, [aR scr, aR a, aR b, aR pa, aI l4, aI 1, aI (nI 4), l7, aU, aU, aU], []) τ2 Q) :
    ∀ d k (τ : SG) (A : MS) (l7 : AV), k + d = 4 → lv e0 ms mo scr len a b pa p q τ A (4 * k) (Z0 + 3120 * k) (U0 + 48000 * k) → mN A = k → mR A = 0 → ax_wp e0 mo 14 195 (83, [aR scr, aR a, aR b, aR pa, aI l4, aI 1, aI (nI k), l7, aU, aU, aU], []) τ Q := by
  intro d
  induction d with
  | zero =>
    intro k τ A l7 hk h hN hR
    obtain rfl : k = 4 := by omega
    exact sg_195_83 (d := 13) ⟨fun z => absurd z (by decide), fun _ => K τ A l7 h⟩
  | succ d ih =>
    intro k τ A l7 hk h hN hR
    have hk4 : k < 4 := by omega
    refine sg_195_83 (d := 13) ⟨fun _ => ⟨fun z => absurd z (by decide), fun _ => ?_⟩, fun z => absurd (nI_lt (b := 4) hk4 (by decide)) z⟩
    rw [show (1 : Int32) + nI k = nI (1 + k) from nI_add 1 k]
    refine ax_use (ct_149 (f := fun i => sgI τ 25 i scr) h.2.2.2.2.2 (fun _ => rfl) hl (by omega)) rfl fun v τ1 hv => ?_
    obtain ⟨rfl, rfl⟩ := hv
    obtain ⟨z, hz, ez⟩ := drw_nat (fun i => sgI τ1 25 i scr) len (1 + k)
    rw [ez]
    have e2 : nI z / 2 = nI (z / 2) := pk_div (d := 2) hz (by decide) (by decide)
    have eu : (1 : Int32) + (nI z - nI z / 2 * 2) = nI (1 + z % 2) := by
      rw [show nI z - nI z / 2 * 2 = nI (z % 2) from pk_rem (d := 2) hz (by decide) (by decide)]
      exact nI_add 1 _
    have ev : (1 : Int32) + (nI z / 2 - nI z / 2 / 2 * 2) = nI (1 + z / 2 % 2) := by
      rw [e2, show nI (z / 2) - nI (z / 2) / 2 * 2 = nI (z / 2 % 2) from pk_rem (d := 2) (by omega) (by decide) (by decide)]
      exact nI_add 1 _
    refine sg_195_102 (d := 13) ⟨by decide, by decide, by decide, ?_⟩
    rw [eu, ev]
    refine ax_use (lf_add h _ _) rfl fun v τ2 hv => ?_
    obtain ⟨rfl, h2⟩ := hv
    refine sg_195_122 (d := 13) ⟨by decide, by decide, by decide, ?_⟩
    rw [eu, ev]
    refine ax_use (ls_add h2) rfl fun v τ3 hv => ?_
    obtain ⟨rfl, h3⟩ := hv
    obtain ⟨n3, r3⟩ := add_yes (A := A) hR (by omega) (x := 1 + z % 2) (y := 1 + z / 2 % 2) (by omega) (by omega) (by omega) (by omega)
    refine sg_195_140 (d := 13) ⟨fun _ => ⟨by decide, by decide, by decide, by decide, ?_⟩, fun z => absurd rfl z⟩
    refine ax_use (lf_set h3 _ _ _) rfl fun v τ4 hv => ?_
    obtain ⟨rfl, h4⟩ := hv
    refine sg_195_162 (d := 13) ⟨by decide, by decide, by decide, by decide, ?_⟩
    refine ax_use (ls_set h4) rfl fun v τ5 hv => ?_
    obtain ⟨rfl, h5⟩ := hv
    obtain ⟨n5, r5⟩ := set_nr (A := (oAddStage A (nI (1 + z % 2)) (nI (1 + z / 2 % 2))).2) (nI k) (nI z / 4 - nI z / 4 / 3 * 3) (nI z / 12 - nI z / 12 / 4 * 4)
    rw [n3] at n5
    rw [r3] at r5
    refine sg_195_181 (d := 13) ⟨fun _ => ⟨by decide, ?_⟩, fun z => absurd rfl z⟩
    refine ax_use (lf_mk h5 _ _) rfl fun v τ6 hv => ?_
    obtain ⟨rfl, h6⟩ := hv
    obtain ⟨m6, n6, r6⟩ := mk_yes r5 (k := k) (by omega) (by omega) (nI z / 48)
    rw [n5, hN] at n6
    refine sg_195_195 (d := 13) ⟨fun y => absurd (m6.symm.trans y) (by decide), fun _ => ⟨by decide, ?_⟩⟩
    refine ax_use (ls_mk h6) rfl fun v τ7 hv => ?_
    obtain ⟨rfl, h7⟩ := hv
    refine sg_195_209 (d := 13) ⟨fun y => absurd (m6.symm.trans y) (by decide), fun _ => ?_⟩
    refine sg_195_217 (d := 13) ?_
    generalize (oMk (oSetStage (oAddStage A (nI (1 + z % 2)) (nI (1 + z / 2 % 2))).2 (nI k) (nI z / 4 - nI z / 4 / 3 * 3) (nI z / 12 - nI z / 12 / 4 * 4)).2 (nI k) (nI z / 48)).2 = A7 at h7 n6 r6
    have go : ∀ (τ8 : SG) (A8 : MS), lv e0 ms mo scr len a b pa p q τ8 A8 (4 * k + 4) (Z0 + 3120 * k + 3120) (U0 + 48000 * k + 48000) → mN A8 = k + 1 → mR A8 = 0 → ax_wp e0 mo 14 195 (280, [aR scr, aR a, aR b, aR pa, aI l4, aI 1, aI (nI k), aI (nI z), aU, aU, aU], []) τ8 Q := fun τ8 A8 h8 n8 r8 => by
      refine sg_195_280 (d := 13) ?_
      rw [nI_1]
      exact ih (k + 1) τ8 A8 _ (by omega) (lv_le (show lv e0 ms mo scr len a b pa p q τ8 A8 (4 * (k + 1)) _ _ from h8) (by omega) (by omega)) n8 r8
    have h7' : lv e0 ms mo scr len a b pa p q τ7 A7 (4 * k + 4) (Z0 + 3120 * k + 3120) (U0 + 48000 * k + 48000) := lv_le (lv_n h7) (by omega) (by omega)
    refine sg_195_219 (d := 13) ⟨fun y => absurd y (by decide), fun _ => ⟨fun _ => go τ7 A7 h7' n6 r6, fun l6 => ⟨by decide, by decide, fun _ => go τ7 A7 h7' n6 r6, fun _ => ⟨by decide, l6, ?_⟩⟩⟩⟩
    refine ax_use (lf_need h7 _ _) rfl fun v τ8 hv => ?_
    obtain ⟨rfl, h8⟩ := hv
    refine sg_195_255 (d := 13) ⟨by decide, l6, ?_⟩
    refine ax_use (ls_need h8) rfl fun v τ9 hv => ?_
    obtain ⟨rfl, h9⟩ := hv
    obtain ⟨n9, r9⟩ := need_nr (A := A7) (nI k) (nI z / 1152 - nI z / 1152 / nI k * nI k)
    exact sg_195_270 (d := 13) ⟨fun _ => go τ9 _ (lv_le h9 (by omega) (by omega)) (n9.trans n6) (r9.trans r6), fun z => absurd rfl z⟩
end
end AXLA
