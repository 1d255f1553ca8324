/-! The class's cache: an entry is found, an entry is made. -/
section AXRP
section
variable {e0 mo : Nat} {σ σ' σ1 : SG} {x : Nat} {L : LY} {A A' : MS} {r k j p w : Nat}
/-- the list of entries is written -/
def rcEW (L : LY) : Nat → Nat → Nat → Prop := fun k' _ q => (k' = 8 ∧ q = lF L 5) ∨ (k' = 23 ∧ q = lF L 9)
theorem rcEW_no {k' i q : Nat} (h8 : k' ≠ 8) (h23 : k' ≠ 23) : ¬ rcEW L k' i q := fun z => by
  rcases z with z | z
  · exact h8 z.1
  · exact h23 z.1
theorem rcEW_c {k' i q : Nat} (z : rcEW L k' i q) : cW k' i q := by
  rcases z with z | z
  · rw [z.1]; exact ⟨by decide, by decide, by decide, by decide, by decide⟩
  · rw [z.1]; exact ⟨by decide, by decide, by decide, by decide, by decide⟩
theorem rc_en (h : ax_rc e0 σ x L A) {es : List (Nat × Nat)} {el cap : Nat} {g : Nat → Nat} (hF : ax_F (rcEW L) σ σ') (hl : ax_li σ' (lF L 5) el cap es.length g) (hc : (el = lF L 9 ∧ cap = lC L 3) ∨ (sgZ σ ≤ el ∧ 0 < cap ∧ cap ≤ 2000)) (hE' : ∀ i, i < es.length → g i < sgZ σ' ∧ rcE1 σ' (g i) (es.getD i (0, 0)) (mS A 6 (es.getD i (0, 0)).1)) : ax_rc e0 σ' x (lEn L el cap g) (A.1, mQ A, es) :=
  rc_set (A' := (A.1, mQ A, es)) h (hF.mono fun _ _ _ _ z => Or.inr z) (fun _ _ _ _ _ => rfl) rfl (rcS_F h.2.2.1 hF (rc_hb h).1 rfl (fun _ _ => rfl) (fun k i _ => rcEW_no (by decide) (by decide))) hl hc hE'
theorem cap9 (h : ax_rc e0 σ x L A) : lC L 3 ≤ 2000 ∧ (lC L 3 = 0 → lF L 9 = e0) := h.2.2.2.2.2.2.2.2.2.2.2.2.2.1 3 (by decide)
theorem ct_1 (h : ax_rc e0 σ x L A) (hI : mB A) (hE : mEB A) (hr : r < mR A) (hk : k < mU A 16 r) (h6 : mP A 6 r k = mS A 6 k) : ax_ok e0 mo 6 1 [aR (lF L 4), aR (gP L 1 r k), aR (gU L 1 r)] σ (fun w σ2 => w = aI (resV A r k) ∧ ∃ L', ax_rc e0 σ2 x L' (resE A r k) ∧ cl_fr σ L σ2 L' 0 0 ∧ L'.2.2.1 = L.2.2.1) := by
  obtain ⟨f0, -, -, -, -, -, -, f7, f8⟩ := xf h
  obtain ⟨hb, hf, hx, hge⟩ := rc_hb h
  obtain ⟨a1, a2, a3, a4, b1, b2, b3, c1⟩ := pt_at h hr hk
  have h63 : mS A 6 k ≤ 3 := (hI.2.2.1 k).2.1
  have hk8 : k < 8 := by have := mU16_le hI hr; omega
  have hl := h.2.1.2.2.2.1
  have hn := hE.1
  refine sg_1_0 (d := 5) ⟨ax_kd b1, ?_⟩
  rw [b3 6 (by decide) (by decide), h6]
  unfold resV resE
  refine pk_eq (mS A 6 k) 0 (fun q => ?_) (fun q => ?_)
  · rw [q]
    exact ⟨rfl, L, h, fr_refl σ L, rfl⟩
  · rw [nb_ne q]
    show ax_wp e0 mo 6 1 _ σ (ax_ct (fun w σ2 => w = aI (nI (bif Nat.beq (mFn A r k).1 0 then 0 else (mFn A r k).2)) ∧ ∃ L', ax_rc e0 σ2 x L' (A.1, mQ A, bif Nat.beq (mFn A r k).1 0 then mE A else mRot (mE A) ((mFn A r k).1 - 1)) ∧ cl_fr σ L σ2 L' 0 0 ∧ L'.2.2.1 = L.2.2.1) (fun _ _ => False))
    have lp : ∀ t, t ≤ (mE A).length → ∀ v : AV, ax_wp e0 mo 6 1 (17, [aR (lF L 4), aR (gP L 1 r k), aR (gU L 1 r), aI (nI (bif Nat.beq (mFnd A r k (mS A 6 k) t).1 0 then 0 else (mFnd A r k (mS A 6 k) t).2)), aI (nI (mFnd A r k (mS A 6 k) t).1 - 1), aI (nI t), v], []) σ (ax_ct (fun w σ2 => w = aI (nI (bif Nat.beq (mFn A r k).1 0 then 0 else (mFn A r k).2)) ∧ ∃ L', ax_rc e0 σ2 x L' (A.1, mQ A, bif Nat.beq (mFn A r k).1 0 then mE A else mRot (mE A) ((mFn A r k).1 - 1)) ∧ cl_fr σ L σ2 L' 0 0 ∧ L'.2.2.1 = L.2.2.1) (fun _ _ => False)) := by
      refine ax_down (N := (mE A).length) (fun t => ∀ v : AV, ax_wp e0 mo 6 1 (17, [aR (lF L 4), aR (gP L 1 r k), aR (gU L 1 r), aI (nI (bif Nat.beq (mFnd A r k (mS A 6 k) t).1 0 then 0 else (mFnd A r k (mS A 6 k) t).2)), aI (nI (mFnd A r k (mS A 6 k) t).1 - 1), aI (nI t), v], []) σ _) ?_ (fun t ht ih => ?_)
      · intro v
        obtain ⟨m1, m2, m3⟩ := mFnd_ok A r k (mS A 6 k) (mE A).length
        refine sg_1_17 (d := 5) ⟨ax_kd f7, ?_⟩
        rw [f8]
        refine ⟨ax_kd hl.1, ax_use0 (ct_157 hl) rfl ?_⟩
        refine sg_1_26 (d := 5) ⟨fun q => absurd q (nI_nlt (Nat.le_refl _) (by omega)), fun _ => ⟨fun z => ?_, fun z => ⟨ax_kd f7, ?_⟩⟩⟩
        · have z0 : (mFnd A r k (mS A 6 k) (mE A).length).1 = 0 := by
            rcases Nat.eq_zero_or_pos (mFnd A r k (mS A 6 k) (mE A).length).1 with c | c
            · exact c
            · rw [nI_p1 (by omega)] at z
              exact absurd z (nI_nlt (a := (mFnd A r k (mS A 6 k) (mE A).length).1 - 1) (b := 0) (Nat.zero_le _) (by omega))
          refine ⟨rfl, L, ?_, fr_refl σ L, rfl⟩
          rw [show (mFn A r k).1 = 0 from z0]
          exact h
        · have z0 : (mFnd A r k (mS A 6 k) (mE A).length).1 ≠ 0 := fun c => z (by rw [c]; decide)
          rw [f8]
          refine ⟨ax_kd hl.1, ax_use0 (ct_157 hl) rfl ?_⟩
          rw [nI_p1 z0]
          have hi : (mFnd A r k (mS A 6 k) (mE A).length).1 - 1 < (mE A).length := by omega
          have ef : (bif Nat.beq (mFn A r k).1 0 then mE A else mRot (mE A) ((mFn A r k).1 - 1)) = mRot (mE A) ((mFnd A r k (mS A 6 k) (mE A).length).1 - 1) := by
            show (bif Nat.beq (mFnd A r k (mS A 6 k) (mE A).length).1 0 then _ else _) = _
            rw [nb_ne z0]; rfl
          rw [ef]
          generalize (mFnd A r k (mS A 6 k) (mE A).length).1 - 1 = i at hi ⊢
          refine sg_1_89 (d := 5) ⟨fun _ => ⟨ax_kd f7, ax_kd f7, ?_⟩, fun y => absurd (nI_lt hi (by omega)) y⟩
          rw [f8]
          have ke : ∀ j, j < (mE A).length → sgK σ (gE L j) = (1, 3) := fun j hj => (h.2.2.2.2.2.2.2.1 j hj).1
          refine ⟨ax_kd hl.1, ax_use (ct_164 hl hi (fun j hj => by rw [ke j hj]; show (1 : Nat) < 9; decide)) rfl fun w σ2 hw => ?_⟩
          obtain ⟨rfl, g1, g2, g3, g4⟩ := hw
          have g2' : ax_F (rcEW L) σ σ2 := g2.mono fun k i q _ z => by
            rcases z with z | z
            · exact Or.inl ⟨z.1, z.2.1⟩
            · exact Or.inr z
          have ke2 : ∀ j, j < (mE A).length → sgK σ2 (gE L j) = (1, 3) := fun j hj => by rw [g2'.2.2.1 _ (hge j hj)]; exact ke j hj
          have kes : ∀ j, j < (mE A).length - 1 → ∃ m, m < (mE A).length ∧ (if j < i then gE L j else gE L (j + 1)) = gE L m := fun j hj => by
            by_cases c : j < i
            · exact ⟨j, by omega, if_pos c⟩
            · exact ⟨j + 1, by omega, if_neg c⟩
          refine sg_1_105 (d := 5) ⟨Or.inr (ax_kd (ke2 i hi)), ax_kd g1.1, ?_⟩
          have hc9 := cap9 h
          refine ax_use (ct_163 g1 hc9.2 (by omega) (fun j hj => ?_) (by rw [ke2 i hi]; show (1 : Nat) < 9; decide) (by rw [g3]; exact hge i hi)) rfl fun w σ3 hw => ?_
          · obtain ⟨m, d1, d2⟩ := kes j hj
            show (if j < i then gE L j else gE L (j + 1)) < sgZ σ2 ∧ (sgK σ2 (if j < i then gE L j else gE L (j + 1))).1 < 9
            rw [d2, g3, ke2 m d1]
            exact ⟨hge m d1, by show (1 : Nat) < 9; decide⟩
          · obtain ⟨rfl, el', cap', d1, d2, d3⟩ := hw
            have hle := g1.2.2.2.2.1
            have hle0 := hl.2.2.2.2.1
            rcases d3 with ⟨rfl, rfl, d4, d5⟩ | ⟨d4, d5, d6, d7⟩
            · have hFt : ax_F (rcEW L) σ σ3 := g2'.trans (d2.mono fun k i q _ z => z)
              have hlen : (mRot (mE A) i).length = (mE A).length := mRot_len hi
              refine sg_1_111 (d := 5) ⟨rfl, lEn L (lF L 9) (lC L 3) (fun x => gE L (if x = (mE A).length - 1 then i else if x < i then x else x + 1)), rc_en h hFt ?_ (Or.inl ⟨rfl, rfl⟩) (fun y hy => ?_), ⟨hFt.mono fun _ _ _ _ z => rcEW_c z, ?_, ?_⟩, rfl⟩
              · rw [hlen]
                have d1 := d1
                rw [show (mE A).length - 1 + 1 = (mE A).length by omega] at d1
                refine li_f d1 fun y hy => ?_
                show (if y = (mE A).length - 1 then gE L i else if y < i then gE L y else gE L (y + 1)) = gE L (if y = (mE A).length - 1 then i else if y < i then y else y + 1)
                split
                · rfl
                · split <;> rfl
              · rw [hlen] at hy
                rw [mRot_at hi hy]
                have hm : (if y = (mE A).length - 1 then i else if y < i then y else y + 1) < (mE A).length := by
                  split
                  · exact hi
                  · split <;> omega
                generalize (if y = (mE A).length - 1 then i else if y < i then y else y + 1) = m at hm ⊢
                exact ⟨Nat.lt_of_lt_of_le (hge m hm) hFt.1, rcE1_F (h.2.2.2.2.2.2.2.1 m hm) hFt (hge m hm) (fun i => rcEW_no (by decide) (by decide)) (fun i q _ => rcEW_no (by decide) (by decide))⟩
              · show sgZ σ3 + lRho L ≤ sgZ σ + lRho (lEn L (lF L 9) (lC L 3) _) + 0
                have : lRho (lEn L (lF L 9) (lC L 3) (fun x => gE L (if x = (mE A).length - 1 then i else if x < i then x else x + 1))) = lRho L := rfl
                rw [this]; omega
              · show sgU σ3 + 4 * lRho L ≤ sgU σ + 4 * lRho (lEn L (lF L 9) (lC L 3) _) + 0
                have : lRho (lEn L (lF L 9) (lC L 3) (fun x => gE L (if x = (mE A).length - 1 then i else if x < i then x else x + 1))) = lRho L := rfl
                rw [this]; omega
            · exact absurd d5 (by omega)
      · intro v
        obtain ⟨m1, m2, m3⟩ := mFnd_ok A r k (mS A 6 k) t
        have m0 := mFnd_0 A r k (mS A 6 k) t
        have hne := mNe_le A r k (mS A 6 k) t
        have eS : mFnd A r k (mS A 6 k) (t + 1) = bif Nat.ble (mFnd A r k (mS A 6 k) t).2 (mNe A r k (mS A 6 k) t) then (t + 1, mNe A r k (mS A 6 k) t) else mFnd A r k (mS A 6 k) t := rfl
        have ke := (h.2.2.2.2.2.2.2.1 t ht).1
        refine sg_1_17 (d := 5) ⟨ax_kd f7, ?_⟩
        rw [f8]
        refine ⟨ax_kd hl.1, ax_use0 (ct_157 hl) rfl ?_⟩
        refine sg_1_26 (d := 5) ⟨fun _ => ⟨ax_kd f7, ?_⟩, fun q => absurd (nI_lt ht (by omega)) q⟩
        rw [f8]
        refine ⟨ax_kd hl.1, ax_use0 (ct_160 hl ht) rfl ?_⟩
        refine sg_1_38 (d := 5) ⟨Or.inr (ax_kd ke), ax_kd b1, ax_kd ke, ?_⟩
        rw [b2]
        refine ax_use0 (ct_5 h hI hE ht hr hk8) rfl ?_
        have skip : mFnd A r k (mS A 6 k) (t + 1) = mFnd A r k (mS A 6 k) t → ∀ v, ax_wp e0 mo 6 1 (17, [aR (lF L 4), aR (gP L 1 r k), aR (gU L 1 r), aI (nI (bif Nat.beq (mFnd A r k (mS A 6 k) t).1 0 then 0 else (mFnd A r k (mS A 6 k) t).2)), aI (nI (mFnd A r k (mS A 6 k) t).1 - 1), aI (nI t + 1), v], []) σ (ax_ct (fun w σ2 => w = aI (nI (bif Nat.beq (mFn A r k).1 0 then 0 else (mFn A r k).2)) ∧ ∃ L', ax_rc e0 σ2 x L' (A.1, mQ A, bif Nat.beq (mFn A r k).1 0 then mE A else mRot (mE A) ((mFn A r k).1 - 1)) ∧ cl_fr σ L σ2 L' 0 0 ∧ L'.2.2.1 = L.2.2.1) (fun _ _ => False)) := fun e v => by
          have := ih v
          rw [e] at this
          rw [nI_1]
          exact this
        have hb3 : (bif Nat.beq (mFnd A r k (mS A 6 k) t).1 0 then 0 else (mFnd A r k (mS A 6 k) t).2) ≤ (mFnd A r k (mS A 6 k) t).2 := by
          cases Nat.beq (mFnd A r k (mS A 6 k) t).1 0
          · exact Nat.le_refl _
          · exact Nat.zero_le _
        refine sg_1_49 (d := 5) ⟨fun y => ?_, fun y => skip ?_ _⟩
        · have y0 := (pos_iff (by omega)).mp y
          refine pk_lt (mNe A r k (mS A 6 k) t) (bif Nat.beq (mFnd A r k (mS A 6 k) t).1 0 then 0 else (mFnd A r k (mS A 6 k) t).2) (fun c => skip ?_ _) (fun c => ?_)
          · rw [eS, not_true_b (b := Nat.ble (mFnd A r k (mS A 6 k) t).2 (mNe A r k (mS A 6 k) t)) (fun u => by have := Nat.le_of_ble_eq_true u; omega)]
            rfl
          · have hble : (mFnd A r k (mS A 6 k) t).2 ≤ mNe A r k (mS A 6 k) t := by
              by_cases z : (mFnd A r k (mS A 6 k) t).1 = 0
              · rw [m0 z]; omega
              · rw [nb_ne z] at c; exact c
            have e := eS
            rw [Nat.ble_eq_true_of_le hble] at e
            have e : mFnd A r k (mS A 6 k) (t + 1) = (t + 1, mNe A r k (mS A 6 k) t) := e
            have := ih (aI (nI (mNe A r k (mS A 6 k) t)))
            rw [e] at this
            rw [nI_1]
            have e9 : (nI t : Int32) = nI (t + 1) - 1 := by rw [nI_p1 (by omega)]; rfl
            rw [show ax_wp e0 mo 6 1 (17, [aR (lF L 4), aR (gP L 1 r k), aR (gU L 1 r), aI (nI (mNe A r k (mS A 6 k) t)), aI (nI t), aI (nI (t + 1)), aI (nI (mNe A r k (mS A 6 k) t))], []) σ = ax_wp e0 mo 6 1 (17, [aR (lF L 4), aR (gP L 1 r k), aR (gU L 1 r), aI (nI (mNe A r k (mS A 6 k) t)), aI (nI (t + 1) - 1), aI (nI (t + 1)), aI (nI (mNe A r k (mS A 6 k) t))], []) σ from by rw [← e9]]
            exact this
        · have y0 : mNe A r k (mS A 6 k) t = 0 := by
            rcases Nat.eq_zero_or_pos (mNe A r k (mS A 6 k) t) with c | c
            · exact c
            · exact absurd ((pos_iff (by omega)).mpr c) y
          rw [eS, y0, not_true_b (b := Nat.ble (mFnd A r k (mS A 6 k) t).2 0) (fun u => by have := Nat.le_of_ble_eq_true u; omega)]
          rfl
    exact lp 0 (Nat.zero_le _) aU
end
end AXRP
