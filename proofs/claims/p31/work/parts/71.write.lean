/-! The class: stages and entries are written; cancel; older runs. -/
section AXRL
/-- the layout with other entries -/
def lEn (L : LY) (el cap : Nat) (g : Nat → Nat) : LY := (fun i => if i = 9 then el else L.1 i, fun i => if i = 3 then cap else L.2.1 i, L.2.2.1, g)
theorem lEn_id (L : LY) : lEn L (lF L 9) (lC L 3) (gE L) = L := by
  refine Prod.ext (funext fun i => ?_) (Prod.ext (funext fun i => ?_) rfl)
  · show (if i = 9 then L.1 9 else L.1 i) = L.1 i
    split
    · rename_i z; rw [z]
    · rfl
  · show (if i = 3 then L.2.1 3 else L.2.1 i) = L.2.1 i
    split
    · rename_i z; rw [z]
    · rfl
section
variable {e0 mo : Nat} {σ σ' σ1 : SG} {x : Nat} {L : LY} {A A' : MS} {r k j p w : Nat}
/-- what setting stages and entries may write -/
def rcSW (L : LY) (A : MS) : Nat → Nat → Nat → Prop := fun k' _ q => (k' = 5 ∧ ∃ k, k < mN A ∧ q = gS L k) ∨ (k' = 8 ∧ q = lF L 5) ∨ (k' = 23 ∧ q = lF L 9)
theorem rcSW_no {k' i q : Nat} (h5 : k' ≠ 5) (h8 : k' ≠ 8) (h23 : k' ≠ 23) : ¬ rcSW L A k' i q := fun z => by
  rcases z with z | z | z
  · exact h5 z.1
  · exact h8 z.1
  · exact h23 z.1
theorem rc_set (h : ax_rc e0 σ x L A) {el cap : Nat} {g : Nat → Nat} (hF : ax_F (rcSW L A) σ σ') (hA : ∀ f r k j, f = 0 ∨ 10 ≤ f → A'.1 f r k j = A.1 f r k j) (eQ : mQ A' = mQ A) (hS' : rcS σ' L A') (hl : ax_li σ' (lF L 5) el cap (mE A').length g) (hc : (el = lF L 9 ∧ cap = lC L 3) ∨ (sgZ σ ≤ el ∧ 0 < cap ∧ cap ≤ 2000)) (hE' : ∀ i, i < (mE A').length → g i < sgZ σ' ∧ rcE1 σ' (g i) ((mE A').getD i (0, 0)) (mS A' 6 ((mE A').getD i (0, 0)).1)) : ax_rc e0 σ' x (lEn L el cap g) A' := by
  obtain ⟨hb, hf, hx, hge⟩ := rc_hb h
  obtain ⟨hX, hL, hS, hU, hP, hJ, hWk, hE, hB⟩ := h
  have eR : mR A' = mR A := hA 10 0 0 0 (by decide)
  have eN : mN A' = mN A := hA 0 0 0 0 (by decide)
  have eU : ∀ f r, 10 ≤ f → mU A' f r = mU A f r := fun f r a => hA f r 0 0 (Or.inr a)
  obtain ⟨l1, l2, l3, l4, l5⟩ := hL
  obtain ⟨⟨B1, B2, B3, B4, B5⟩, B6, B7, B8, B9, B10, B11, B12⟩ := hB
  have n8 : ∀ i, (i = 0 ∨ i = 1 ∨ i = 2) → ∀ t : Nat, ¬ rcSW L A 8 t (lF L i) := fun i hi t z => by
    rcases z with z | z | z
    · exact absurd z.1 (by decide)
    · have := B6 i 5 (by omega) (by decide) z.2; omega
    · exact absurd z.1 (by decide)
  have n23 : ∀ i, (i = 0 ∨ i = 1 ∨ i = 2) → 0 < lC L i → ∀ t : Nat, ¬ rcSW L A 23 t (lF L (6 + i)) := fun i hi hc t z => by
    rcases z with z | z | z
    · exact absurd z.1 (by decide)
    · exact absurd z.1 (by decide)
    · have := B8 i 3 (by omega) (by decide) (by omega) z.2; omega
  have n5 : ∀ r k, r < mR A → k < mU A 16 r → ∀ t : Nat, ¬ rcSW L A 5 t (gP L 1 r k) := fun r k hr hk t z => by
    rcases z with z | z | z
    · obtain ⟨-, k', hk', e⟩ := z
      exact B11 r k k' hr hk hk' e
    · exact absurd z.1 (by decide)
    · exact absurd z.1 (by decide)
  have elZ : el < sgZ σ' := hl.2.2.2.2.2.2.2.1
  have fresh : sgZ σ ≤ el → ∀ q, q < sgZ σ → q ≠ el := fun a q b z => by omega
  refine ⟨rcX_F hX hF hx (hf 3 (by decide)) (hf 4 (by decide)) (fun i => rcSW_no (by decide) (by decide) (by decide)) (fun i => rcSW_no (by decide) (by decide) (by decide)), ⟨by rw [eN]; exact li_G l1 hF ⟨n8 0 (by decide) 1, n8 0 (by decide) 2⟩ (n23 0 (by decide)), by rw [eR]; exact li_G l2 hF ⟨n8 1 (by decide) 1, n8 1 (by decide) 2⟩ (n23 1 (by decide)), ?_, hl, fun r hr => ?_⟩, hS', rcU_F hU hF hb eR (fun f r a b => eU f r (by omega)) (fun r hr => ?_) (fun r i _ _ => rcSW_no (by decide) (by decide) (by decide)) (fun i q _ => rcSW_no (by decide) (by decide) (by decide)), rcP_F hP hF hb eR (fun r => eU 16 r (by decide)) (fun f r k a b => hA (20 + f) r k 0 (by omega)) (fun r' k' j' _ _ => by rw [show mJ A' 0 r' k' j' = mJ A 0 r' k' j' from hA 40 r' k' j' (by decide)]) (fun r k i _ _ => rcSW_no (by decide) (by decide) (by decide)) (fun r k i a b => n5 r k a b i) (fun r k i _ _ => rcSW_no (by decide) (by decide) (by decide)), fun r k j a b c d => ?_, rcW_F hWk hF (hf 3 (by decide)) (fun w _ => hA 50 w 0 0 (by decide)) (fun i => rcSW_no (by decide) (by decide) (by decide)), fun i hi => (hE' i hi).2, ⟨Nat.lt_of_lt_of_le B1 hF.1, Nat.lt_of_lt_of_le B2 hF.1, fun i hi => ?_, fun t r k j => Nat.lt_of_lt_of_le (B4 t r k j) hF.1, fun i hi => (hE' i hi).1⟩, ?_, ?_, ?_, ?_, ?_, ?_, ?_⟩
  · show ax_li σ' (lF L 2) (lF L 8) (lC L 2) (mQ A').length (fun i => gJp L ((mQ A').getD i 0))
    rw [eQ]
    exact li_G l3 hF ⟨n8 2 (by decide) 1, n8 2 (by decide) 2⟩ (n23 2 (by decide))
  · rw [eR] at hr
    have l5 := l5 r hr
    rw [show mU A' 16 r = mU A 16 r from eU 16 r (by decide)]
    refine li_F l5 hF ⟨fun z => ?_, fun z => ?_⟩ (fun i z => ?_)
    · rcases z with z | z | z
      · exact absurd z.1 (by decide)
      · exact B7 r 5 hr (by decide) z.2
      · exact absurd z.1 (by decide)
    · rcases z with z | z | z
      · exact absurd z.1 (by decide)
      · exact B7 r 5 hr (by decide) z.2
      · exact absurd z.1 (by decide)
    · rcases z with z | z | z
      · exact absurd z.1 (by decide)
      · exact absurd z.1 (by decide)
      · exact B9 r 3 hr (by decide) z.2
  · show sgI σ' 4 4 (gU L 0 r) = nI (mU A' 11 r)
    rw [(hF.2.2.2 4 4 _ (hb _ _ _ _) (rcSW_no (by decide) (by decide) (by decide))).1, eU 11 r (by decide)]
    exact (hU r hr).2.1
  · rw [eR] at a
    rw [show mU A' 16 r = mU A 16 r from eU 16 r (by decide)] at b
    rw [show mJ A' 0 r k j = mJ A 0 r k j from hA 40 r k j (by decide)] at d
    exact rcJ1_F (hJ r k j a b c d) hF hb (fun f hf => hA (40 + f) r k j (by omega)) (fun i => rcSW_no (by decide) (by decide) (by decide))
  · show (if i = 9 then el else L.1 i) < _
    split
    · exact elZ
    · exact Nat.lt_of_lt_of_le (B3 i hi) hF.1
  · intro i j hi hj
    show (if i = 9 then el else L.1 i) = (if j = 9 then el else L.1 j) → _
    rw [if_neg (by omega), if_neg (by omega)]
    exact B6 i j hi hj
  · intro r i hr hi
    rw [eR] at hr
    show gU L 2 r ≠ (if i = 9 then el else L.1 i)
    rw [if_neg (by omega)]
    exact B7 r i hr hi
  · intro i j hi hj
    show (if i = 3 then cap else L.2.1 i) ≠ 0 → (if 6 + i = 9 then el else L.1 (6 + i)) = (if 6 + j = 9 then el else L.1 (6 + j)) → _
    by_cases zi : i = 3
    · by_cases zj : j = 3
      · intro _ _; rw [zi, zj]
      · rw [if_pos zi, if_pos (by omega), if_neg (by omega)]
        intro hc0 e
        rcases hc with ⟨c1, c2⟩ | ⟨c1, c2, c3⟩
        · have := B8 3 j (by decide) hj (by rw [← c2]; exact hc0) (by rw [← c1]; exact e)
          omega
        · have := B3 (6 + j) (by omega)
          exact absurd e.symm (fresh c1 _ this)
    · by_cases zj : j = 3
      · rw [if_neg zi, if_neg (by omega), if_pos (by omega)]
        intro hc0 e
        rcases hc with ⟨c1, c2⟩ | ⟨c1, c2, c3⟩
        · have := B8 i 3 hi (by decide) hc0 (by rw [← c1]; exact e)
          omega
        · have := B3 (6 + i) (by omega)
          exact absurd e (fresh c1 _ this)
      · rw [if_neg zi, if_neg (by omega), if_neg (by omega)]
        exact B8 i j hi hj
  · intro r i hr hi
    rw [eR] at hr
    show gU L 3 r ≠ (if 6 + i = 9 then el else L.1 (6 + i))
    split
    · rcases hc with ⟨c1, c2⟩ | ⟨c1, c2, c3⟩
      · rw [c1]; exact B9 r 3 hr (by decide)
      · exact fresh c1 _ (hb _ _ _ _)
    · exact B9 r i hr hi
  · intro i hi
    show (if i = 3 then cap else L.2.1 i) ≤ 2000 ∧ ((if i = 3 then cap else L.2.1 i) = 0 → (if 6 + i = 9 then el else L.1 (6 + i)) = e0)
    by_cases zi : i = 3
    · rw [if_pos zi, if_pos (by omega)]
      rcases hc with ⟨c1, c2⟩ | ⟨c1, c2, c3⟩
      · rw [c1, c2]; exact B10 3 (by decide)
      · exact ⟨c3, fun z => by omega⟩
    · rw [if_neg zi, if_neg (by omega)]
      exact B10 i hi
  · intro r k k' hr hk hk'
    rw [eR] at hr
    rw [show mU A' 16 r = mU A 16 r from eU 16 r (by decide)] at hk
    rw [eN] at hk'
    exact B11 r k k' hr hk hk'
  · intro r k hr hk
    rw [eR] at hr
    rw [show mU A' 16 r = mU A 16 r from eU 16 r (by decide)] at hk
    exact B12 r k hr hk
theorem gS_inj (h : ax_rc e0 σ x L A) (hN : mN A ≤ 8) {k k' : Nat} (hk : k < mN A) (hk' : k' < mN A) (e : gS L k = gS L k') : k = k' := by
  have u1 := (h.2.2.1 k hk).2.1
  rw [e, (h.2.2.1 k' hk').2.1] at u1
  exact ((nI_eq (by omega) (by omega)).mp u1).symm
/-- a stage's field is written -/
theorem rc_stg (h : ax_rc e0 σ x L A) (hN : mN A ≤ 8) (hk : k < mN A) {f n : Nat} (h1 : 1 ≤ f) (h9 : f ≤ 9) (h6 : f ≠ 6) {v : Int32} (hv : v = nI n) : ax_rc e0 (putI σ 5 f (gS L k) v) x L (mUp A f k 0 0 n) := by
  obtain ⟨hb, hf, hx, hge⟩ := rc_hb h
  have hF : ax_F (rcSW L A) σ (putI σ 5 f (gS L k) v) := (ax_F.refl _ _).putI fun _ => Or.inl ⟨rfl, k, hk, rfl⟩
  have B10 := h.2.2.2.2.2.2.2.2.2.2.2.2.2.1
  have := rc_set (A' := mUp A f k 0 0 n) (el := lF L 9) (cap := lC L 3) (g := gE L) h hF (fun f' r k j a => mUp_f A (by omega) r k j) rfl (fun k' hk' => ?_) h.2.1.2.2.2.1 (Or.inl ⟨rfl, rfl⟩) (fun i hi => ?_)
  · rw [lEn_id] at this
    exact this
  · have hk' : k' < mN A := by rw [show mN (mUp A f k 0 0 n) = mN A from mUp_f A (by omega) 0 0 0] at hk'; exact hk'
    obtain ⟨s1, s2, s3⟩ := h.2.2.1 k' hk'
    refine ⟨s1, by rw [gI_putI, if_neg (fun z => by omega)]; exact s2, fun f' a b => ?_⟩
    rw [gI_putI, mS_up]
    by_cases z : f' = f ∧ k' = k
    · rw [if_pos z, if_pos ⟨rfl, z.1, by rw [z.2]⟩]; exact hv
    · rw [if_neg z, if_neg (fun y => z ⟨y.2.1, gS_inj h hN hk' hk y.2.2⟩)]
      exact s3 f' a b
  · have hi : i < (mE A).length := hi
    show gE L i < sgZ σ ∧ rcE1 _ (gE L i) ((mE A).getD i (0, 0)) (mS (mUp A f k 0 0 n) 6 ((mE A).getD i (0, 0)).1)
    rw [mS_up, if_neg (fun z => h6 z.1.symm)]
    exact ⟨hge i hi, rcE1_F (h.2.2.2.2.2.2.2.1 i hi) hF (hge i hi) (fun i => rcSW_no (by decide) (by decide) (by decide)) (fun i q _ => rcSW_no (by decide) (by decide) (by decide))⟩
theorem ct_42 (h : ax_rc e0 σ x L A) (hJJ : mJJ A) (v : Int32) : ax_wp e0 mo 7 42 (0, ax_entry 42 [aR x, aI v], []) σ (cl_po e0 σ x L [0, 2] (oCancel A v)) := by
  obtain ⟨f0, f1, f2, f3, f4, f5, f6, f7, f8⟩ := xf h
  have hI := hJJ.1.1
  have hR := hI.1.2
  refine sg_42_0 (d := 6) ⟨ax_kd f0, ck_use (ct_62 h hI v) rfl (fun u e hu => ?_) (fun e => ?_)⟩
  · subst hu
    obtain ⟨r, hr, rfl⟩ := inB_yes e (by omega)
    have cr : (nI r).toNatClampNeg = r := nI_clamp (by omega)
    obtain ⟨u1, u2, u3, u4, u5, u6, u7, u8⟩ := ru_at h hr
    have hu : mU A 11 r < 16 := by have := (hI.2.2.2.2.1 _ hr).1; omega
    rw [cr]
    refine sg_42_5 (d := 6) ⟨ax_kd u1, ?_⟩
    rw [u6]
    unfold oCancel
    rw [e, cr]
    refine pk_eq (mU A 11 r) 7 (fun q => ⟨ax_kd f0, ax_use (ct_80 h hJJ hr q) rfl fun w σ2 hw => ?_⟩) (fun q => ⟨by decide, ?_⟩)
    · obtain ⟨rfl, h2, f2⟩ := hw
      rw [q]
      exact sg_42_30 (d := 6) ⟨rfl, rfl, L, h2, fr_le f2 (by decide) (by decide)⟩
    · rw [nb_ne q]
      exact ⟨Nat.le_succ 1, rfl, rfl⟩
  · unfold oCancel
    rw [e]
    exact ⟨Nat.le_refl 1, rfl, rfl⟩
theorem ct_79 (h : ax_rc e0 σ x L A) (hJJ : mJJ A) {t b : Nat} (hT : mTn A t) (hb : b < 4) : ax_ok e0 mo 6 79 [aR x, aI (nI b)] σ (fun w σ2 => w = aU ∧ ax_rc e0 σ2 x L (mOld A b (mR A)) ∧ cl_fr σ L σ2 L 0 0) := by
  have hR := hJJ.1.1.1.2
  refine sg_79_0 (d := 5) ?_
  refine ax_down (N := mR A) (fun s => ∀ (σ1 : SG) (v : AV), ax_rc e0 σ1 x L (mOld A b s) → cl_fr σ L σ1 L 0 0 → ax_wp e0 mo 6 79 (2, [aR x, aI (nI b), aI (nI s), v], []) σ1 _) ?_ (fun s hs ih => ?_) 0 (Nat.zero_le _) σ aU h (fr_refl σ L)
  · intro σ1 v h1 f1
    obtain ⟨o1, o2, o3, o4⟩ := mOld_ok hJJ hT b (mR A) (Nat.le_refl _)
    have eR : mR (mOld A b (mR A)) = mR A := o4 10 0 0 0 (by decide) (by decide) (by decide)
    obtain ⟨g0, -, g2, -, -, -, -, -, -⟩ := xf h1
    have li := h1.2.1.2.1
    refine sg_79_2 (d := 5) ⟨ax_kd g0, ?_⟩
    rw [g2]
    refine ⟨ax_kd li.1, ax_use0 (ct_157 li) rfl ?_⟩
    rw [eR]
    exact sg_79_10 (d := 5) ⟨fun q => absurd q (nI_nlt (Nat.le_refl _) (by omega)), fun _ => ⟨rfl, h1, f1⟩⟩
  · intro σ1 v h1 f1
    obtain ⟨o1, o2, o3, o4⟩ := mOld_ok hJJ hT b s (Nat.le_of_lt hs)
    have eR : mR (mOld A b s) = mR A := o4 10 0 0 0 (by decide) (by decide) (by decide)
    obtain ⟨g0, -, g2, -, -, -, -, -, -⟩ := xf h1
    have li := h1.2.1.2.1
    have hs' : s < mR (mOld A b s) := by rw [eR]; exact hs
    obtain ⟨u1, u2, u3, u4, u5, u6, u7, u8⟩ := ru_at h1 hs'
    have hu : mU (mOld A b s) 11 s < 16 := by have := (o1.1.1.2.2.2.2.1 _ hs').1; omega
    have hu2 := (o1.1.1.2.2.2.2.1 _ hs').2.1
    refine sg_79_2 (d := 5) ⟨ax_kd g0, ?_⟩
    rw [g2]
    refine ⟨ax_kd li.1, ax_use0 (ct_157 li) rfl ?_⟩
    rw [eR]
    refine sg_79_10 (d := 5) ⟨fun _ => ⟨ax_kd g0, ?_⟩, fun q => absurd (nI_lt hs (by omega)) q⟩
    rw [g2]
    refine ⟨ax_kd li.1, ax_use0 (ct_160 li hs') rfl ?_⟩
    have e : mOld A b (s + 1) = bif Nat.beq (mU (mOld A b s) 11 s) 7 && Nat.beq (mU (mOld A b s) 12 s) b then mFol (mCan (mOld A b s) s) s else mOld A b s := rfl
    refine sg_79_21 (d := 5) ⟨Or.inr (ax_kd u1), ax_kd u1, ?_⟩
    rw [u3, u6]
    refine pk_eq (mU (mOld A b s) 12 s) b (fun q => ⟨ax_kd u1, pk_eq (mU (mOld A b s) 11 s) 7 (fun q7 => ⟨ax_kd g0, ax_use (ct_80 h1 o1 hs' q7) rfl fun w σ2 hw => ?_⟩) (fun q7 => ?_)⟩) (fun q => ?_)
    · obtain ⟨rfl, h2, f2⟩ := hw
      refine sg_79_47 (d := 5) ?_
      rw [nI_1]
      refine ih σ2 _ ?_ (fr_trans f1 f2)
      rw [e, q7, q, Nat.beq_refl, Nat.beq_refl]
      exact h2
    · rw [nI_1]
      refine ih σ1 _ ?_ f1
      rw [e, nb_ne q7]
      exact h1
    · rw [nI_1]
      refine ih σ1 _ ?_ f1
      rw [e, nb_ne q, Bool.and_false]
      exact h1
end
end AXRL
