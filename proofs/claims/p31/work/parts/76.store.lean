/-! The class's cache: an entry is made. finish, take. -/
section AXRQ
theorem mCom_full {a b l : Nat} (h1 : 1 ≤ l) : mCom a b l l = l ↔ a = b := by
  obtain ⟨n, rfl⟩ : ∃ n, l = n + 1 := ⟨l - 1, by omega⟩
  have e : mCom a b (n + 1) (n + 1) = bif Nat.beq (a / mPow (n + 1 - (n + 1))) (b / mPow (n + 1 - (n + 1))) then n + 1 else mCom a b (n + 1) n := rfl
  rw [e, Nat.sub_self, show mPow 0 = 1 from rfl, Nat.div_one, Nat.div_one]
  constructor
  · intro z
    by_cases c : a = b
    · exact c
    · rw [nb_ne c] at z
      have z : mCom a b (n + 1) n = n + 1 := z
      have := mCom_le a b (n + 1) n
      omega
  · intro z
    rw [z, Nat.beq_refl]
    rfl
theorem ne_iff {A : MS} {r k l i : Nat} (h1 : 1 ≤ l) : mNe A r k l i = l ↔ (mE A).getD i (0, 0) = (k, mKey A r l) := by
  unfold mNe
  by_cases c : ((mE A).getD i (0, 0)).1 = k
  · rw [nb_eq c]
    show mCom _ _ _ _ = _ ↔ _
    rw [mCom_full h1]
    exact ⟨fun z => Prod.ext c z, fun z => by rw [z]⟩
  · rw [nb_ne c]
    exact ⟨fun z => by have z : 0 = l := z; omega, fun z => absurd (by rw [z]) c⟩
theorem has_iff {A : MS} {e : Nat × Nat} : mHas A e = true ↔ ∃ i, i < (mE A).length ∧ (mE A).getD i (0, 0) = e := by
  unfold mHas
  rw [List.any_eq_true]
  constructor
  · rintro ⟨y, hy, z⟩
    obtain ⟨i, hi, rfl⟩ := List.getElem_of_mem hy
    rw [Bool.and_eq_true] at z
    refine ⟨i, hi, ?_⟩
    rw [List.getD_eq_getElem?_getD, List.getElem?_eq_getElem hi]
    exact Prod.ext (ax_beq z.1) (ax_beq z.2)
  · rintro ⟨i, hi, z⟩
    exact ⟨_, mE_at hi, by rw [z, Nat.beq_refl, Nat.beq_refl]; rfl⟩
theorem erase0_at (es : List (Nat × Nat)) (y : Nat × Nat) (i : Nat) : ((es ++ [y]).eraseIdx 0).getD i (0, 0) = (es ++ [y]).getD (i + 1) (0, 0) := by
  rw [List.getD_eq_getElem?_getD, List.getElem?_eraseIdx, if_neg (Nat.not_lt_zero i), ← List.getD_eq_getElem?_getD]
section
variable {e0 mo : Nat} {σ σ' σ1 : SG} {x : Nat} {L : LY} {A A' : MS} {r k j p w : Nat}
theorem ct_2 (h : ax_rc e0 σ x L A) (hI : mB A) (hE : mEB A) (hr : r < mR A) (hk : k < mU A 16 r) (h6 : mP A 6 r k = mS A 6 k) : ax_ok e0 mo 6 2 [aR (lF L 4), aR (gP L 1 r k), aR (gU L 1 r)] σ (fun w σ2 => w = aU ∧ ∃ L', ax_rc e0 σ2 x L' (mSto A r k) ∧ cl_fr σ L σ2 L' 1 3 ∧ L'.2.2.1 = L.2.2.1) := by
  obtain ⟨f0, -, -, -, -, -, -, f7, f8⟩ := xf h
  obtain ⟨hb, hf, hx, hge⟩ := rc_hb h
  obtain ⟨a1, a2, a3, a4, b1, b2, b3, c1⟩ := pt_at h hr hk
  have h63 : mS A 6 k ≤ 3 := (hI.2.2.1 k).2.1
  have hk8 : k < 8 := by have := mU16_le hI hr; omega
  have hl := h.2.1.2.2.2.1
  have hn := hE.1
  have b6 : sgI σ 5 6 (gP L 1 r k) = nI (mS A 6 k) := by rw [b3 6 (by decide) (by decide), h6]
  have hc9 := cap9 h
  have ke : ∀ j, j < (mE A).length → sgK σ (gE L j) = (1, 3) := fun j hj => (h.2.2.2.2.2.2.2.1 j hj).1
  obtain ⟨-, -, u7, u8, u9, u10⟩ := h.2.2.2.1 r hr
  obtain ⟨-, v2, v3, v4, v5, -⟩ := hI.2.2.2.2.1 r hr
  -- an entry is made and joins the list
  have mk : ∀ (σb : SG) (n' : Nat) (m : Nat → Nat) (l3 : Int32) (es : List (Nat × Nat)), 1 ≤ mS A 6 k → mSto A r k = (A.1, mQ A, es) → ax_F (rcEW L) σ σb → sgZ σb = sgZ σ → sgU σb = sgU σ → ax_li σb (lF L 5) (lF L 9) (lC L 3) n' (fun i => gE L (m i)) → (∀ i, i < n' → m i < (mE A).length) → n' ≤ 9 → es.length = n' + 1 → (∀ i, i < n' → es.getD i (0, 0) = (mE A).getD (m i) (0, 0)) → es.getD n' (0, 0) = (k, mKey A r (mS A 6 k)) → ∃ K : AV → SG → Prop, ax_ok e0 mo 0 4 [aR (sgZ σb), aI (nI k), aI (nI (mS A 6 k)), aR (gU L 1 r)] (mkC σb 1 3) K ∧ ∀ v σ', K v σ' → ax_wp e0 mo 6 2 (95, [aR (lF L 4), aR (gP L 1 r k), aR (gU L 1 r), aI l3], ax_push v [aR (sgZ σb), aR (lF L 5)]) σ' (ax_ct (fun w σ2 => w = aU ∧ ∃ L', ax_rc e0 σ2 x L' (mSto A r k) ∧ cl_fr σ L σ2 L' 1 3 ∧ L'.2.2.1 = L.2.2.1) (fun _ _ => False)) := by
    intro σb n' m l3 es h61 hs gF gZ gU' gl gm gn ge1 ge2 ge3
    refine ⟨fun v σ' => v = aU ∧ σ' = putR (putI (putI (mkC σb 1 3) 1 0 (sgZ σb) (nI k)) 1 1 (sgZ σb) (nI (mS A 6 k))) 1 2 (sgZ σb) (gU L 1 r), ?_, fun v σ' hv => ?_⟩
    · have kz : sgK (mkC σb 1 3) (sgZ σb) = (1, 3) := by rw [gK_mk, if_pos rfl]
      exact sg_4_0 ⟨⟨by show (0 : Nat) ≤ 8; decide, by rw [gZ]; omega⟩, ax_kd kz, ax_kd kz, ax_kd kz, rfl, rfl⟩
    · obtain ⟨rfl, rfl⟩ := hv
      generalize hσc : putR (putI (putI (mkC σb 1 3) 1 0 (sgZ σb) (nI k)) 1 1 (sgZ σb) (nI (mS A 6 k))) 1 2 (sgZ σb) (gU L 1 r) = σc
      have nz : ∀ P : Prop, sgZ σb < sgZ σb → P := fun P z => absurd z (Nat.lt_irrefl _)
      have fc : ax_F (rcEW L) σb σc := by
        rw [← hσc]
        exact ((((ax_F.refl _ _).mkC).putI fun z => nz _ z).putI fun z => nz _ z).putR fun z => nz _ z
      have zc : sgZ σc = sgZ σb + 1 := by rw [← hσc]; rfl
      have uc : sgU σc = sgU σb + 3 := by rw [← hσc]; rfl
      have kc : sgK σc (sgZ σb) = (1, 3) := by rw [← hσc]; show sgK (mkC σb 1 3) (sgZ σb) = _; rw [gK_mk, if_pos rfl]
      have i0 : sgI σc 1 0 (sgZ σb) = nI k := by
        rw [← hσc, gI_putR, gI_putI, if_neg (fun z => absurd z.2.1 (by decide)), gI_putI, if_pos ⟨rfl, rfl, rfl⟩]
      have i1 : sgI σc 1 1 (sgZ σb) = nI (mS A 6 k) := by
        rw [← hσc, gI_putR, gI_putI, if_pos ⟨rfl, rfl, rfl⟩]
      have i2 : sgR σc 1 2 (sgZ σb) = gU L 1 r := by
        rw [← hσc, gR_putR, if_pos ⟨rfl, rfl, rfl⟩]
      have hlc : ax_li σc (lF L 5) (lF L 9) (lC L 3) n' (fun i => gE L (m i)) := by
        have hF0 : ax_F (fun _ _ _ => False) σb σc := by
          rw [← hσc]
          exact ((((ax_F.refl _ _).mkC).putI fun z => nz _ z).putI fun z => nz _ z).putR fun z => nz _ z
        exact li_F gl hF0 ⟨id, id⟩ (fun _ => id)
      have gFc := gF.trans fc
      refine sg_2_95 (d := 5) ⟨ax_kd hlc.1, ax_use (ct_163 hlc hc9.2 (by omega) (fun j hj => ?_) (by rw [kc]; show (1 : Nat) < 9; decide) (by omega)) rfl fun w σ3 hw => ?_⟩
      · have := hge _ (gm j hj)
        refine ⟨by omega, ?_⟩
        rw [gFc.2.2.1 _ this, ke _ (gm j hj)]
        show (1 : Nat) < 9
        decide
      · obtain ⟨rfl, el', cap', d1, d2, d3⟩ := hw
        have hcap := ax_cap_le (lC L 3)
        have hpot := ax_cap_pot (lC L 3)
        have hcl := ax_cap_lt (lC L 3)
        have gFt : ax_F (rcEW L) σ σ3 := gFc.trans (d2.mono fun k i q _ z => z)
        have n1c : ∀ (k' i q : Nat), k' ≠ 8 → k' ≠ 23 → ¬ ((k' = 8 ∧ q = lF L 5) ∨ (k' = 23 ∧ q = lF L 9)) := fun k' i q a b z => by
          rcases z with z | z
          · exact a z.1
          · exact b z.1
        have zlt : sgZ σb < sgZ σc := by omega
        refine sg_2_98 (d := 5) ⟨rfl, lEn L el' cap' (fun i => if i = n' then sgZ σb else gE L (m i)), ?_, ⟨gFt.mono fun _ _ _ _ z => rcEW_c z, ?_, ?_⟩, rfl⟩
        · rw [hs]
          refine rc_en h gFt (by rw [ge1]; exact d1) ?_ fun i hi => ?_
          · rcases d3 with ⟨c1, c2, c3, c4⟩ | ⟨c1, c2, c3, c4, c5⟩
            · exact Or.inl ⟨c1, c2⟩
            · exact Or.inr ⟨by omega, by omega, by omega⟩
          · rw [ge1] at hi
            by_cases z : i = n'
            · rw [if_pos z, z, ge3]
              refine ⟨Nat.lt_of_lt_of_le zlt d2.1, ?_, ?_, ?_, ?_⟩
              · rw [d2.2.2.1 _ zlt]; exact kc
              · rw [(d2.2.2.2 1 0 _ zlt (n1c 1 0 _ (by decide) (by decide))).1]; exact i0
              · rw [(d2.2.2.2 1 1 _ zlt (n1c 1 1 _ (by decide) (by decide))).1]; exact i1
              · rw [(d2.2.2.2 1 2 _ zlt (n1c 1 2 _ (by decide) (by decide))).2.2, i2]
                have hu := hb 2 r 0 0
                refine ⟨by rw [gFt.2.2.1 _ hu]; exact u7, Nat.lt_of_lt_of_le hu gFt.1, mU A 13 r, mU A 14 r, mU A 15 r, v3, v4, v5, ?_, ?_, ?_, rfl⟩
                · rw [(gFt.2.2.2 20 0 _ hu (rcEW_no (by decide) (by decide))).1]; exact u8
                · rw [(gFt.2.2.2 20 1 _ hu (rcEW_no (by decide) (by decide))).1]; exact u9
                · rw [(gFt.2.2.2 20 2 _ hu (rcEW_no (by decide) (by decide))).1]; exact u10
            · rw [if_neg z, ge2 i (by omega)]
              have hm := gm i (by omega)
              exact ⟨Nat.lt_of_lt_of_le (hge _ hm) gFt.1, rcE1_F (h.2.2.2.2.2.2.2.1 _ hm) gFt (hge _ hm) (fun i => rcEW_no (by decide) (by decide)) (fun i q _ => rcEW_no (by decide) (by decide))⟩
        · show sgZ σ3 + (lC L 0 + lC L 1 + lC L 2 + lC L 3) ≤ sgZ σ + (lC L 0 + lC L 1 + lC L 2 + cap') + 1
          rcases d3 with ⟨c1, c2, c3, c4⟩ | ⟨c1, c2, c3, c4, c5⟩ <;> omega
        · show sgU σ3 + 4 * (lC L 0 + lC L 1 + lC L 2 + lC L 3) ≤ sgU σ + 4 * (lC L 0 + lC L 1 + lC L 2 + cap') + 3
          rcases d3 with ⟨c1, c2, c3, c4⟩ | ⟨c1, c2, c3, c4, c5⟩ <;> omega
  refine sg_2_0 (d := 5) ⟨ax_kd b1, ?_⟩
  rw [b6]
  refine pk_eq (mS A 6 k) 0 (fun q => ?_) (fun q => ?_)
  · refine ⟨rfl, L, ?_, fr_le (fr_refl σ L) (by decide) (by decide), rfl⟩
    unfold mSto
    rw [q]
    exact h
  · have h61 : 1 ≤ mS A 6 k := by omega
    refine ax_down (N := (mE A).length) (fun t => (∀ i, i < t → mNe A r k (mS A 6 k) i ≠ mS A 6 k) → ax_wp e0 mo 6 2 (10, [aR (lF L 4), aR (gP L 1 r k), aR (gU L 1 r), aI (nI t)], []) σ _) ?_ (fun t ht ih => ?_) 0 (Nat.zero_le _) (fun i hi => absurd hi (Nat.not_lt_zero i))
    · intro ok
      have hno : mHas A (k, mKey A r (mS A 6 k)) = false := not_true_b fun z => by
        obtain ⟨i, hi, e⟩ := has_iff.mp z
        exact ok i hi ((ne_iff h61).mpr e)
      have hst : mSto A r k = (A.1, mQ A, bif Nat.blt 10 ((mE A).length + 1) then (mE A ++ [(k, mKey A r (mS A 6 k))]).eraseIdx 0 else mE A ++ [(k, mKey A r (mS A 6 k))]) := by
        unfold mSto
        rw [nb_ne q, hno]
        rfl
      refine sg_2_10 (d := 5) ⟨ax_kd f7, ?_⟩
      rw [f8]
      refine ⟨ax_kd hl.1, ax_use0 (ct_157 hl) rfl ?_⟩
      refine sg_2_18 (d := 5) ⟨fun y => absurd y (nI_nlt (Nat.le_refl _) (by omega)), fun _ => ⟨ax_kd f7, ?_⟩⟩
      rw [f8]
      refine ⟨ax_kd hl.1, ax_use0 (ct_157 hl) rfl ?_⟩
      refine sg_2_61 (d := 5) (pk_lt (mE A).length 10 (fun y => ⟨ax_kd f7, ?_⟩) (fun y => ⟨ax_kd f7, ?_⟩))
      · have kp1 : sgK (mkC σ 1 3) (gP L 1 r k) = (5, 10) := by rw [gK_mk, if_neg (Nat.ne_of_lt (hb _ _ _ _))]; exact b1
        rw [f8, show sgI (mkC σ 1 3) 5 0 (gP L 1 r k) = nI k from by rw [gI_mk, if_neg (fun z => absurd z.1 (by decide))]; exact b2, show sgI (mkC σ 1 3) 5 6 (gP L 1 r k) = nI (mS A 6 k) from by rw [gI_mk, if_neg (fun z => absurd z.1 (by decide))]; exact b6]
        obtain ⟨K, k1, k2⟩ := mk σ (mE A).length id (nI (mE A).length) (mE A ++ [(k, mKey A r (mS A 6 k))]) h61 (by rw [hst, not_true_b (b := Nat.blt 10 ((mE A).length + 1)) (fun z => by have := Nat.blt_eq.mp z; omega)]; rfl) (ax_F.refl _ _) rfl rfl hl (fun i hi => hi) (by omega) (by rw [List.length_append]; rfl) (fun i hi => getDe_app hi) (getDe_snoc _ _)
        exact ⟨ax_kd kp1, ax_kd kp1, by omega, ax_use k1 rfl k2⟩
      · have e10 : (mE A).length = 10 := by omega
        rw [f8]
        refine ⟨ax_kd hl.1, ax_use (ct_164 hl (i := 0) (by omega) (fun j hj => by rw [ke j hj]; show (1 : Nat) < 9; decide)) rfl fun w σ2 hw => ?_⟩
        obtain ⟨rfl, g1, g2, g3, g4⟩ := hw
        have g2' : ax_F (rcEW L) σ σ2 := g2.mono fun k i q _ z => by
          rcases z with z | z
          · exact Or.inl ⟨z.1, z.2.1⟩
          · exact Or.inr z
        have c7 : sgK σ2 (lF L 4) = (0, 1) := by rw [g2'.2.2.1 _ (hf 4 (by decide))]; exact f7
        have c8 : sgR σ2 0 0 (lF L 4) = lF L 5 := by rw [(g2'.2.2.2 0 0 _ (hf 4 (by decide)) (rcEW_no (by decide) (by decide))).2.2]; exact f8
        have kp1 : sgK (mkC σ2 1 3) (gP L 1 r k) = (5, 10) := by rw [gK_mk, if_neg (by rw [g3]; exact Nat.ne_of_lt (hb _ _ _ _)), g2'.2.2.1 _ (hb _ _ _ _)]; exact b1
        refine sg_2_74 (d := 5) ⟨ax_kd c7, ?_⟩
        rw [c8, show sgI (mkC σ2 1 3) 5 0 (gP L 1 r k) = nI k from by rw [gI_mk, if_neg (fun z => absurd z.1 (by decide)), (g2'.2.2.2 5 0 _ (hb _ _ _ _) (rcEW_no (by decide) (by decide))).1]; exact b2, show sgI (mkC σ2 1 3) 5 6 (gP L 1 r k) = nI (mS A 6 k) from by rw [gI_mk, if_neg (fun z => absurd z.1 (by decide)), (g2'.2.2.2 5 6 _ (hb _ _ _ _) (rcEW_no (by decide) (by decide))).1]; exact b6]
        obtain ⟨K, k1, k2⟩ := mk σ2 ((mE A).length - 1) (fun i => i + 1) (nI (mE A).length) ((mE A ++ [(k, mKey A r (mS A 6 k))]).eraseIdx 0) h61 (by rw [hst, show Nat.blt 10 ((mE A).length + 1) = true from Nat.blt_eq.mpr (by omega)]; rfl) g2' g3 g4 (li_f g1 fun i hi => if_neg (Nat.not_lt_zero i)) (fun i hi => by omega) (by omega) (by rw [List.length_eraseIdx_of_lt (by rw [List.length_append]; omega), List.length_append]; show (mE A).length + 1 - 1 = _; omega) (fun i hi => by rw [erase0_at]; exact getDe_app (by omega)) (by rw [erase0_at, show (mE A).length - 1 + 1 = (mE A).length by omega]; exact getDe_snoc _ _)
        exact ⟨ax_kd kp1, ax_kd kp1, by omega, ax_use k1 rfl k2⟩
    · intro ok
      have hne := mNe_le A r k (mS A 6 k) t
      refine sg_2_10 (d := 5) ⟨ax_kd f7, ?_⟩
      rw [f8]
      refine ⟨ax_kd hl.1, ax_use0 (ct_157 hl) rfl ?_⟩
      refine sg_2_18 (d := 5) ⟨fun _ => ⟨ax_kd f7, ?_⟩, fun q => absurd (nI_lt ht (by omega)) q⟩
      rw [f8]
      refine ⟨ax_kd hl.1, ax_use0 (ct_160 hl ht) rfl ?_⟩
      refine sg_2_29 (d := 5) ⟨Or.inr (ax_kd (ke t ht)), ax_kd b1, ax_kd (ke t ht), ?_⟩
      rw [b2]
      refine ax_use0 (ct_5 h hI hE ht hr hk8) rfl ?_
      refine sg_2_40 (d := 5) ⟨ax_kd b1, ?_⟩
      rw [b6]
      refine pk_eq (mNe A r k (mS A 6 k) t) (mS A 6 k) (fun c => ?_) (fun c => ?_)
      · refine ⟨rfl, L, ?_, fr_le (fr_refl σ L) (by decide) (by decide), rfl⟩
        unfold mSto
        rw [nb_ne q, has_iff.mpr ⟨t, ht, (ne_iff h61).mp c⟩]
        exact h
      · rw [nI_1]
        refine ih fun i hi => ?_
        rcases Nat.lt_succ_iff_lt_or_eq.mp hi with d | d
        · exact ok i d
        · rw [d]; exact c
end
end AXRQ
