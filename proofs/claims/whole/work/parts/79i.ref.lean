/-! The reference's constructor. -/
section AXRE2
def fldn (s : Nat) : Nat := if s < 9 then s + 1 else if s < 17 then s + 2 else s + 3
def posn (i : Nat) : Nat := if i ≤ 9 then i - 1 else if i ≤ 18 then i - 2 else i - 3
theorem fld_pos {i : Nat} (h : ax_mr i) : fldn (posn i) = i ∧ posn i < 19 := by
  obtain ⟨h1, h2, h3, h4⟩ := h
  unfold posn fldn
  split
  · rw [if_pos (by omega)]; omega
  · split
    · rw [if_neg (by omega), if_pos (by omega)]; omega
    · rw [if_neg (by omega), if_neg (by omega)]; omega
theorem fld_inj {s t : Nat} (h : fldn s = fldn t) : s = t := by
  unfold fldn at h
  split at h <;> split at h <;> (try split at h) <;> (try split at h) <;> omega
theorem pos_inj {i j : Nat} (hi : ax_mr i) (hj : ax_mr j) (h : posn i = posn j) : i = j := by
  have a := (fld_pos hi).1
  have b := (fld_pos hj).1
  rw [h] at a
  exact a.symm.trans b
section
variable {e0 mo : Nat} {σ σ' : SG} {m : Nat}
/-- t rows of the reference stand -/
def mkI (σ : SG) (m t u : Nat) (σ1 : SG) : Prop := ax_F (fun k _ q => k = 7 ∧ q = m) σ σ1 ∧ (sgZ σ1 = sgZ σ + t ∧ sgU σ1 = sgU σ + u) ∧ (∀ s, s < t → sgR σ1 7 (fldn s) m = sgZ σ + s ∧ sgK σ1 (sgZ σ + s) = ax_md (fldn s) ∧ ∀ i, sgI σ1 (ax_md (fldn s)).1 i (sgZ σ + s) = 0) ∧ ∀ i, sgI σ1 7 i m = 0
theorem mk_step {t u K n f : Nat} {σ1 : SG} (zm : m < sgZ σ) (h : mkI σ m t u σ1) (hf : f = fldn t) (hk : (K, n) = ax_md (fldn t)) (h7 : K ≠ 7) : mkI σ m (t + 1) (u + n) (putR (mkC σ1 K n) 7 f m (sgZ σ1)) := by
  obtain ⟨h1, ⟨h2, hu⟩, h3, h4⟩ := h
  refine ⟨(h1.mkC).putR fun _ => ⟨rfl, rfl⟩, ⟨by show sgZ σ1 + 1 = _; omega, by show sgU σ1 + n = _; omega⟩, fun s hs => ?_, fun i => ?_⟩
  · rcases Nat.lt_succ_iff_lt_or_eq.mp hs with c | c
    · obtain ⟨a1, a2, a3⟩ := h3 s c
      refine ⟨?_, ?_, fun i => ?_⟩
      · rw [gR_putR, if_neg (fun z => by have := fld_inj (z.2.1.trans hf); omega), gR_mk, if_neg (fun z => h7 z.1.symm)]; exact a1
      · show sgK (mkC σ1 K n) (sgZ σ + s) = _
        rw [gK_mk, if_neg (by omega)]; exact a2
      · rw [gI_putR, gI_mk, if_neg (fun z => by have := z.2; omega)]; exact a3 i
    · subst c
      refine ⟨?_, ?_, fun i => ?_⟩
      · rw [gR_putR, if_pos ⟨rfl, hf.symm, rfl⟩]; exact h2
      · show sgK (mkC σ1 K n) (sgZ σ + s) = _
        rw [gK_mk, if_pos h2.symm]; exact hk
      · rw [gI_putR, gI_mk, if_pos ⟨by rw [← hk], h2.symm⟩]
  · rw [gI_putR, gI_mk, if_neg (fun z => h7 z.1.symm)]; exact h4 i
theorem mk_k {t u K n : Nat} {σ1 : SG} (km : sgK σ m = (7, 24)) (zm : m < sgZ σ) (h : mkI σ m t u σ1) : (sgK (mkC σ1 K n) m).1 = 7 := by
  rw [gK_mk, if_neg (by rw [h.2.1.1]; omega), h.1.2.2.1 _ zm, km]
theorem ct_83t {σ1 : SG} {u : Nat} (km : sgK σ m = (7, 24)) (zm : m < sgZ σ) (g : mkI σ m 19 u σ1) : ax_wp e0 mo 0 83 (159, [aR m, aI 0], []) σ1 (ax_ct (fun w σ2 => w = aU ∧ (∃ M, ax_rm σ2 m M mS0 ∧ ∀ i, ax_mr i → sgZ σ ≤ M i ∧ M i < sgZ σ2) ∧ ax_F (fun k _ q => k = 7 ∧ q = m) σ σ2 ∧ sgZ σ2 = sgZ σ + 19 ∧ sgU σ2 = sgU σ + u) (fun _ _ => False)) := by
  obtain ⟨g1, ⟨g2, gu⟩, g3, g4⟩ := g
  have k1 : sgK σ1 m = (7, 24) := by rw [g1.2.2.1 _ zm]; exact km
  obtain ⟨r20, k20, -⟩ := g3 17 (by decide)
  have r20 : sgR σ1 7 20 m = sgZ σ + 17 := r20
  have k20 : sgK σ1 (sgZ σ + 17) = (20, 4) := k20
  refine ax_down (N := 4) (fun t => ∀ σc : SG, sgK σc = sgK σ1 → sgR σc = sgR σ1 → sgZ σc = sgZ σ1 → sgU σc = sgU σ1 → ax_F (fun k _ q => k = 7 ∧ q = m) σ σc → (∀ w, w < t → sgI σc 20 w (sgZ σ + 17) = -1) → (∀ k i q, q ≠ sgZ σ + 17 → sgI σc k i q = sgI σ1 k i q) → ax_wp e0 mo 0 83 (159, [aR m, aI (nI t)], []) σc _) ?_ (fun t ht ih => ?_) 0 (Nat.zero_le _) σ1 rfl rfl rfl rfl g1 (fun w hw => absurd hw (Nat.not_lt_zero w)) (fun _ _ _ _ => rfl)
  · intro σc cK cR cZ cU cF c1 c2
    refine sg_83_159 ⟨fun q => absurd q (by decide), fun _ => ⟨rfl, ⟨fun i => sgZ σ + posn i, ⟨⟨by rw [cK]; exact k1, fun i hi => ?_, fun i j hi hj e => pos_inj hi hj (Nat.add_left_cancel e)⟩, ⟨?_, ?_, ?_, ?_⟩, fun f k a b c => ?_, fun r hr => absurd hr (Nat.not_lt_zero r), fun r hr => absurd hr (Nat.not_lt_zero r), fun r hr => absurd hr (Nat.not_lt_zero r), fun r k j hr => absurd hr (Nat.not_lt_zero r), fun i hi => absurd hi (Nat.not_lt_zero i), fun w hw => ?_, fun i hi => absurd hi (Nat.not_lt_zero i)⟩, fun i hi => ?_⟩, cF, by rw [cZ]; exact g2, by rw [cU]; exact gu⟩⟩
    · obtain ⟨p1, p2⟩ := fld_pos hi
      obtain ⟨d1, d2, -⟩ := g3 (posn i) p2
      rw [p1] at d1 d2
      rw [cK, cR]
      exact ⟨d1, d2⟩
    · rw [c2 _ _ _ (by omega)]; exact g4 0
    · rw [c2 _ _ _ (by omega)]; exact g4 10
    · rw [c2 _ _ _ (by omega)]; exact g4 19
    · rw [c2 _ _ _ (by omega)]; exact g4 22
    · show sgI σc (if f < 7 then 20 else 21) k (sgZ σ + posn f) = _
      have hp : posn f = f - 1 := if_pos b
      obtain ⟨-, -, d3⟩ := g3 (f - 1) (by omega)
      have hf : fldn (f - 1) = f := by unfold fldn; rw [if_pos (by omega)]; omega
      have d3 := d3 k
      rw [hf] at d3
      rw [hp, c2 _ _ _ (by omega)]
      have em : (ax_md f).1 = if f < 7 then 20 else 21 := by
        have ef : f = 1 ∨ f = 2 ∨ f = 3 ∨ f = 4 ∨ f = 5 ∨ f = 6 ∨ f = 7 ∨ f = 8 ∨ f = 9 := by omega
        rcases ef with rfl | rfl | rfl | rfl | rfl | rfl | rfl | rfl | rfl <;> rfl
      rw [← em]
      exact d3
    · exact c1 w hw
    · obtain ⟨p1, p2⟩ := fld_pos hi
      exact ⟨Nat.le_add_right _ _, by rw [cZ, g2]; exact Nat.add_lt_add_left p2 _⟩
  · intro σc cK cR cZ cU cF c1 c2
    have kc : sgK σc m = (7, 24) := by rw [cK]; exact k1
    have rc : sgR σc 7 20 m = sgZ σ + 17 := by rw [cR]; exact r20
    have kr : sgK σc (sgZ σ + 17) = (20, 4) := by rw [cK]; exact k20
    have ct : (nI t).toNatClampNeg = t := nI_clamp (by omega)
    refine sg_83_159 ⟨fun _ => ⟨ax_kd kc, ?_⟩, fun q => absurd (nI_lt (b := 4) ht (by decide)) q⟩
    rw [rc, ct, nI_1]
    refine ⟨ax_in_nI kr ht (by decide), ih _ cK cR cZ cU (cF.putI fun z => by omega) (fun w hw => ?_) (fun k i q hq => ?_)⟩
    · rw [gI_putI]
      by_cases z : w = t
      · rw [if_pos ⟨rfl, z, rfl⟩]
      · rw [if_neg (fun y => z y.2.1)]; exact c1 w (by omega)
    · rw [gI_putI, if_neg (fun y => hq y.2.2)]; exact c2 k i q hq
theorem ct_83 (km : sgK σ m = (7, 24)) (zm : m < sgZ σ) (h0 : 0 < m) (hi : ∀ i, sgI σ 7 i m = 0) : ax_ok e0 mo 0 83 [aR m] σ (fun w σ2 => w = aU ∧ (∃ M, ax_rm σ2 m M mS0 ∧ ∀ i, ax_mr i → sgZ σ ≤ M i ∧ M i < sgZ σ2) ∧ ax_F (fun k _ q => k = 7 ∧ q = m) σ σ2 ∧ sgZ σ2 = sgZ σ + 19 ∧ sgU σ2 = sgU σ + 11607) := by
  have i0 : mkI σ m 0 0 σ := ⟨ax_F.refl _ _, ⟨rfl, rfl⟩, fun s hs => absurd hs (Nat.not_lt_zero s), hi⟩
  have i1 := mk_step (K := 20) (n := 8) (f := 1) zm i0 rfl rfl (by decide)
  refine sg_83_0 ⟨⟨by show (0 : Nat) ≤ 8; decide, h0⟩, ⟨by decide, by decide⟩, mk_k km zm i0, ?_⟩
  refine sg_83_12 ⟨⟨by decide, by decide⟩, mk_k km zm i1, ?_⟩
  have i2 := mk_step (K := 20) (n := 8) (f := 2) zm i1 rfl rfl (by decide)
  refine sg_83_20 ⟨⟨by decide, by decide⟩, mk_k km zm i2, ?_⟩
  have i3 := mk_step (K := 20) (n := 8) (f := 3) zm i2 rfl rfl (by decide)
  refine sg_83_28 ⟨⟨by decide, by decide⟩, mk_k km zm i3, ?_⟩
  have i4 := mk_step (K := 20) (n := 8) (f := 4) zm i3 rfl rfl (by decide)
  refine sg_83_36 ⟨⟨by decide, by decide⟩, mk_k km zm i4, ?_⟩
  have i5 := mk_step (K := 20) (n := 8) (f := 5) zm i4 rfl rfl (by decide)
  refine sg_83_44 ⟨⟨by decide, by decide⟩, mk_k km zm i5, ?_⟩
  have i6 := mk_step (K := 20) (n := 8) (f := 6) zm i5 rfl rfl (by decide)
  refine sg_83_52 ⟨⟨by decide, by decide⟩, mk_k km zm i6, ?_⟩
  have i7 := mk_step (K := 21) (n := 8) (f := 7) zm i6 rfl rfl (by decide)
  refine sg_83_60 ⟨⟨by decide, by decide⟩, mk_k km zm i7, ?_⟩
  have i8 := mk_step (K := 21) (n := 8) (f := 8) zm i7 rfl rfl (by decide)
  refine sg_83_68 ⟨⟨by decide, by decide⟩, mk_k km zm i8, ?_⟩
  have i9 := mk_step (K := 21) (n := 8) (f := 9) zm i8 rfl rfl (by decide)
  refine sg_83_76 ⟨⟨by decide, by decide⟩, mk_k km zm i9, ?_⟩
  have i10 := mk_step (K := 20) (n := 80) (f := 11) zm i9 rfl rfl (by decide)
  refine sg_83_84 ⟨⟨by decide, by decide⟩, mk_k km zm i10, ?_⟩
  have i11 := mk_step (K := 20) (n := 80) (f := 12) zm i10 rfl rfl (by decide)
  refine sg_83_92 ⟨⟨by decide, by decide⟩, mk_k km zm i11, ?_⟩
  have i12 := mk_step (K := 20) (n := 80) (f := 13) zm i11 rfl rfl (by decide)
  refine sg_83_100 ⟨⟨by decide, by decide⟩, mk_k km zm i12, ?_⟩
  have i13 := mk_step (K := 20) (n := 80) (f := 14) zm i12 rfl rfl (by decide)
  refine sg_83_108 ⟨⟨by decide, by decide⟩, mk_k km zm i13, ?_⟩
  have i14 := mk_step (K := 22) (n := 80) (f := 15) zm i13 rfl rfl (by decide)
  refine sg_83_116 ⟨⟨by decide, by decide⟩, mk_k km zm i14, ?_⟩
  have i15 := mk_step (K := 20) (n := 80) (f := 16) zm i14 rfl rfl (by decide)
  refine sg_83_124 ⟨⟨by decide, by decide⟩, mk_k km zm i15, ?_⟩
  have i16 := mk_step (K := 20) (n := 10240) (f := 17) zm i15 rfl rfl (by decide)
  refine sg_83_133 ⟨⟨by decide, by decide⟩, mk_k km zm i16, ?_⟩
  have i17 := mk_step (K := 20) (n := 800) (f := 18) zm i16 rfl rfl (by decide)
  refine sg_83_142 ⟨⟨by decide, by decide⟩, mk_k km zm i17, ?_⟩
  have i18 := mk_step (K := 20) (n := 4) (f := 20) zm i17 rfl rfl (by decide)
  refine sg_83_149 ⟨⟨by decide, by decide⟩, mk_k km zm i18, ?_⟩
  have i19 := mk_step (K := 20) (n := 11) (f := 21) zm i18 rfl rfl (by decide)
  refine sg_83_157 ?_
  exact ct_83t km zm i19
end
end AXRE2
