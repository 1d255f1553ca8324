/-! The class: a stage begins; what follows when jobs have ended. -/
section AXRI
section
variable {e0 mo : Nat} {σ σ' σ1 : SG} {x : Nat} {L : LY} {A A' : MS} {r k j p w : Nat}
theorem gd_eq (hP : mPB A) (hN : mNow A) (hr : r < mR A) (hG : mG A r) (hk : k < mU A 16 r) : mAll (fun i => !(mBit (mP A 4 r k) i) || mWell A r i) (mU A 16 r) = mGd A r k := by
  unfold mGd
  rw [mGd_all]
  refine mAll_cong fun i hi => ?_
  rw [(hN r hr hG).2 k 4 hk (by decide) (by decide), mWellN_eq hN hr hG hi]
theorem nx_all (hJ : mJI A) (hr : r < mR A) (h : mNx A r k = true) {j : Nat} (hj : j < 16) : mJ A 0 r k j = 0 ∨ mJ A 0 r k j = 8 := by
  have hp := mNx_wait h
  refine Classical.byContradiction fun no => ?_
  have z : mCnt A r k 0 = 0 := ax_n_zero.mpr fun i hi => nb_ne fun y => no (hJ.2.2 r k i j hr hi hj y)
  omega
theorem ct_74 (h : ax_rc e0 σ x L A) (hJJ : mJJ A) (hr : r < mR A) (h7 : mU A 11 r = 7) (hk : k < mU A 16 r) (hn : mNx A r k = true) : ax_ok e0 mo 7 74 [aR x, aR (gP L 0 r k)] σ (fun w σ2 => w = aU ∧ ∃ L', ax_rc e0 σ2 x L' (mBeg A r k (mGd A r k) 16) ∧ cl_fr σ L σ2 L' 0 0 ∧ L'.2.2 = L.2.2) := by
  obtain ⟨⟨hI, hP, hN⟩, hGo, hQ, hW, hJI, hE, h60⟩ := id hJJ
  have hG : mG A r := Or.inl h7
  have hok := qOK_of hJJ
  have hql := mQ_len hGo hQ
  have h8 := mU16_le hI hr
  have hk8 : k < 8 := by omega
  obtain ⟨a1, a2, a3, a4, b1, b2, b3, c1⟩ := pt_at h hr hk
  obtain ⟨u1, u2, u3, u4, u5, u6, u7, u8⟩ := ru_at h hr
  refine sg_74_0 (d := 6) ⟨ax_kd a1, ax_kd a1, ?_⟩
  rw [a2, a3]
  refine ⟨ax_kd u1, ax_use0 (ct_22 h hI hP hr hk) rfl ?_⟩
  rw [gd_eq hP hN hr hG hk]
  refine sg_74_11 (d := 6) ?_
  generalize mGd A r k = g
  refine ax_down (N := 16) (fun t => ∀ (σ1 : SG) (L1 : LY) (v : AV), ax_rc e0 σ1 x L1 (mBeg A r k g t) → cl_fr σ L σ1 L1 0 0 → L1.2.2 = L.2.2 → ax_wp e0 mo 7 74 (14, [aR x, aR (gP L 0 r k), aI (bI g), aI (nI t), v], []) σ1 _) ?_ (fun t ht ih => ?_) 0 (Nat.zero_le _) σ L aU (by rw [mBeg_0]; exact h) (fr_refl σ L) rfl
  · intro σ1 L1 v h1 f1 eL
    obtain ⟨La, Lb, Lc⟩ := L1
    have eL : Lc = L.2.2 := eL
    subst eL
    obtain ⟨a1, a2, a3, a4, b1, b2, b3, c1⟩ := pt_at h1 hr hk
    have a1 : sgK σ1 (gP L 0 r k) = (3, 3) := a1
    have a4 : sgR σ1 3 2 (gP L 0 r k) = gP L 2 r k := a4
    have c1 : sgK σ1 (gP L 2 r k) = (24, 16) := c1
    refine sg_74_14 (d := 6) ⟨ax_kd a1, ?_⟩
    rw [a4, c1]
    exact ⟨⟨by decide, by decide⟩, fun q => absurd q (by decide), fun _ => ⟨rfl, _, h1, f1, rfl⟩⟩
  · intro σ1 L1 v h1 f1 eL
    obtain ⟨La, Lb, Lc⟩ := L1
    have eL : Lc = L.2.2 := eL
    subst eL
    have bT : mB (mBeg A r k g t) := mB_beg hI
    obtain ⟨a1, a2, a3, a4, b1, b2, b3, c1⟩ := pt_at h1 hr hk
    have a1 : sgK σ1 (gP L 0 r k) = (3, 3) := a1
    have a4 : sgR σ1 3 2 (gP L 0 r k) = gP L 2 r k := a4
    have c1 : sgK σ1 (gP L 2 r k) = (24, 16) := c1
    have ci : (nI t).toNatClampNeg = t := nI_clamp (by omega)
    have iin : ax_in σ1 24 (gP L 2 r k) (nI t) := ax_in_nI c1 ht (by decide)
    have es : mJ (mBeg A r k g t) 0 r k t = mJ A 0 r k t := mBeg_ge A (fun w => Nat.lt_irrefl _ w.2.2)
    refine sg_74_14 (d := 6) ⟨ax_kd a1, ?_⟩
    rw [a4, c1, ci]
    refine ⟨⟨by decide, by decide⟩, fun _ => ⟨ax_kd a1, iin, ?_⟩, fun q => absurd (nI_lt (b := 16) ht (by decide)) q⟩
    rcases sl_at h1 bT hr hk ht with ⟨z, y⟩ | ⟨z, y, nz, kj, hj1⟩
    · have y : sgR σ1 24 t (gP L 2 r k) = 0 := y
      rw [y]
      refine ⟨fun _ => ?_, fun q => absurd rfl q⟩
      rw [nI_1]
      rw [es] at z
      exact ih σ1 _ _ (by rw [mBeg_no A (by rw [z]; decide)]; exact h1) f1 rfl
    · have y : sgR σ1 24 t (gP L 2 r k) = gJ L r k t := y
      have nz : ¬ gJ L r k t = 0 := nz
      have kj : sgK σ1 (gJ L r k t) = (2, 7) := kj
      rw [y]
      have e0 : mJ A 0 r k t = 0 := by
        rcases nx_all hJI hr hn ht with c | c
        · exact c
        · rw [es, c] at z; exact absurd z (by decide)
      refine ⟨fun q => absurd q nz, fun _ => ?_⟩
      cases g with
      | false =>
        refine ⟨fun _ => ⟨ax_kd kj, ?_⟩, fun q => absurd rfl q⟩
        rw [nI_1]
        refine ih _ _ _ ?_ (fr_I f1 (by decide)) rfl
        rw [mBeg_skip A e0]
        exact rc_jst h1 bT hr hk ht (by rw [es, e0]; decide) (by rw [es, e0]; decide) (s := 6) (by decide) (fun c => absurd c (by decide)) rfl
      | true =>
        refine ⟨fun q => absurd q (by decide), fun _ => ⟨ax_kd (xf h1).1, ?_⟩⟩
        obtain ⟨p1, p2, p3⟩ := pl_parts (r := r) hk8 ht
        have p1 : pR (pl r k t) = r := p1
        have p2 : pK (pl r k t) = k := p2
        have p3 : pJ (pl r k t) = t := p3
        have ep : gJp L (pl r k t) = gJ L r k t := by
          show gJ L (pR (pl r k t)) (pK (pl r k t)) (pJ (pl r k t)) = _
          rw [p1, p2, p3]
        have em : mJp (mBeg A r k true t) 0 (pl r k t) = 0 := by
          show mJ (mBeg A r k true t) 0 (pR (pl r k t)) (pK (pl r k t)) (pJ (pl r k t)) = _
          rw [p1, p2, p3, es, e0]
        have hlen := mBeg_len A r k true t
        have c75 := ct_75 (mo := mo) (p := pl r k t) h1 bT (by omega) (fun q hq => ?_) (by rw [p1]; exact hr) (by rw [p1, p2]; exact hk) (by rw [em]; decide)
        · have c75 := c75
          rw [show gJp (La, Lb, L.2.2) (pl r k t) = gJ L r k t from ep] at c75
          refine ax_use c75 rfl fun w σ2 hw => ?_
          obtain ⟨rfl, L', g1, g2, g3, -⟩ := hw
          refine sg_74_49 (d := 6) ?_
          rw [nI_1]
          refine ih σ2 L' _ ?_ (fr_trans f1 g2) g3
          rw [mBeg_yes A e0]
          have eu : mUpp (mBeg A r k true t) 40 (pl r k t) 1 = mUp (mBeg A r k true t) 40 r k t 1 := by
            show mUp _ 40 (pR (pl r k t)) (pK (pl r k t)) (pJ (pl r k t)) 1 = _
            rw [p1, p2, p3]
          rw [eu] at g1
          exact g1
        · have n8 : ∀ q, mJp A 0 q ≠ 8 → mJp (mBeg A r k true t) 0 q ≠ 8 := fun q c => by
            rcases mBeg_or A r k true t (pR q) (pK q) (pJ q) with d | ⟨-, -, -, -, d⟩
            · show mJ (mBeg A r k true t) 0 (pR q) (pK q) (pJ q) ≠ 8
              rw [d]; exact c
            · show mJ (mBeg A r k true t) 0 (pR q) (pK q) (pJ q) ≠ 8
              rw [d]; decide
          rcases (mBeg_q hk8 (Nat.le_of_lt ht)).mp hq with c | ⟨-, c1, c2, c3, c4⟩
          · obtain ⟨d1, d2, d3⟩ := hok q c
            exact ⟨d1, d2, n8 q d3⟩
          · refine ⟨by rw [c1]; exact hr, by rw [c1, c2]; exact hk, n8 q ?_⟩
            show mJ A 0 (pR q) (pK q) (pJ q) ≠ 8
            rw [c1, c2, c4]; decide
theorem ct_73 (h : ax_rc e0 σ x L A) (hJJ : mJJ A) (hr : r < mR A) (h7 : mU A 11 r = 7) : ax_ok e0 mo 8 73 [aR x, aR (gU L 0 r)] σ (fun w σ2 => w = aU ∧ ∃ L', ax_rc e0 σ2 x L' (mFin (mAdv 8 A r) r) ∧ cl_fr σ L σ2 L' 0 0 ∧ L'.2.2 = L.2.2) := by
  have fin : ∀ (B : MS) (σ1 : SG) (L1 : LY) (n : Int32) (v : AV), ax_rc e0 σ1 x L1 B → mJJ B → r < mR B → mU B 11 r = 7 → cl_fr σ L σ1 L1 0 0 → L1.2.2 = L.2.2 → mFin (mAdv 8 A r) r = mFin B r → ∃ K : AV → SG → Prop, (∀ w σ2, K w σ2 → ax_wp e0 mo 8 73 (35, [aR x, aR (gU L 0 r), aI n, v], ax_push w []) σ2 (ax_ct (fun w σ2 => w = aU ∧ ∃ L', ax_rc e0 σ2 x L' (mFin (mAdv 8 A r) r) ∧ cl_fr σ L σ2 L' 0 0 ∧ L'.2.2 = L.2.2) (fun _ _ => False))) ∧ K (aI (bI (mAll (mOver B r) (mU B 16 r)))) σ1 := by
    intro B σ1 L1 n v h1 hB hrB h7B f1 eL eF
    refine ⟨fun w σ2 => w = aI (bI (mAll (mOver B r) (mU B 16 r))) ∧ σ2 = σ1, fun w σ2 hw => ?_, rfl, rfl⟩
    obtain ⟨rfl, rfl⟩ := hw
    obtain ⟨La, Lb, Lc⟩ := L1
    have eL : Lc = L.2.2 := eL
    subst eL
    obtain ⟨u1, u2, u3, u4, u5, u6, u7, u8⟩ := ru_at h1 hrB
    have u1 : sgK σ2 (gU L 0 r) = (4, 5) := u1
    refine sg_73_35 (d := 7) ⟨fun q => ⟨rfl, _, ?_, f1, rfl⟩, fun q => ⟨ax_kd u1, ?_⟩⟩
    · rw [eF]
      unfold mFin
      rw [h7B, bI0 q]
      exact h1
    · have c24 : ax_ok e0 mo 3 24 [aR (gU L 0 r)] σ2 (fun w σ3 => w = aI (bI (mAll (mWell B r) (mU B 16 r))) ∧ σ3 = σ2) := by
        have c := ct_24 (mo := mo) h1 hB.1.1 hB.1.2.1 hrB
        exact c
      refine ax_use0 c24 rfl ?_
      refine sg_73_43 (d := 7) ⟨fun y => ⟨ax_kd u1, rfl, _, ?_, fr_I f1 (by decide), rfl⟩, fun y => ⟨ax_kd u1, rfl, _, ?_, fr_I f1 (by decide), rfl⟩⟩
      · rw [eF]
        unfold mFin
        rw [h7B, bI1 q, bI0 y]
        exact rc_run h1 hB.1.1 hrB (s := 10) rfl
      · rw [eF]
        unfold mFin
        rw [h7B, bI1 q, bI1 y]
        exact rc_run h1 hB.1.1 hrB (s := 9) rfl
  have lp : ∀ n, n ≤ 8 → ∀ (B : MS) (σ1 : SG) (L1 : LY) (v : AV), ax_rc e0 σ1 x L1 B → mJJ B → r < mR B → mU B 11 r = 7 → cl_fr σ L σ1 L1 0 0 → L1.2.2 = L.2.2 → mFin (mAdv 8 A r) r = mFin (mAdv n B r) r → ax_wp e0 mo 8 73 (2, [aR x, aR (gU L 0 r), aI (nI (8 - n)), v], []) σ1 (ax_ct (fun w σ2 => w = aU ∧ ∃ L', ax_rc e0 σ2 x L' (mFin (mAdv 8 A r) r) ∧ cl_fr σ L σ2 L' 0 0 ∧ L'.2.2 = L.2.2) (fun _ _ => False)) := by
    intro n
    induction n with
    | zero =>
      intro hn B σ1 L1 v h1 hB hrB h7B f1 eL eF
      obtain ⟨K, k1, k2⟩ := fin B σ1 L1 (nI (8 - 0)) v h1 hB hrB h7B f1 eL eF
      have u1 := (ru_at h1 hrB).1
      have eU : gU L1 0 r = gU L 0 r := by show L1.2.2.1 1 r 0 0 = L.2.2.1 1 r 0 0; rw [eL]
      have c23 := ct_23 (mo := mo) h1 hB.1.1 hrB
      rw [eU] at u1 c23
      exact sg_73_2 (d := 7) ⟨fun q => absurd q (by decide), fun _ => ⟨ax_kd u1, ax_use0 c23 rfl (k1 _ _ k2)⟩⟩
    | succ n ih =>
      intro hn B σ1 L1 v h1 hB hrB h7B f1 eL eF
      have u1 := (ru_at h1 hrB).1
      have eU : gU L1 0 r = gU L 0 r := by show L1.2.2.1 1 r 0 0 = L.2.2.1 1 r 0 0; rw [eL]
      have c23 := ct_23 (mo := mo) h1 hB.1.1 hrB
      have c20 := ct_20 (mo := mo) h1 hB.1.1 hB.1.2.1 hB.1.2.2 hrB (Or.inl h7B)
      rw [eU] at u1 c23 c20
      refine sg_73_2 (d := 7) ⟨fun _ => ⟨ax_kd u1, ax_use0 c20 rfl ?_⟩, fun q => absurd (nI_lt (a := 8 - (n + 1)) (b := 8) (by omega) (by decide)) q⟩
      cases q : mLow B r with
      | none =>
        have e0 : loR L1 B r = 0 := by unfold loR; rw [q]
        rw [e0]
        rw [mAdv_none q] at eF
        obtain ⟨K, k1, k2⟩ := fin B σ1 L1 (nI (8 - (n + 1))) (aR 0) h1 hB hrB h7B f1 eL eF
        exact sg_73_12 (d := 7) ⟨fun _ => ⟨ax_kd u1, ax_use0 c23 rfl (k1 _ _ k2)⟩, fun y => absurd rfl y⟩
      | some k =>
        have e0 : loR L1 B r = gP L1 0 r k := by unfold loR; rw [q]
        obtain ⟨hn1, hk, -⟩ := mLow_some.mp q
        rw [e0]
        rw [mAdv_some q] at eF
        have hz := h1.2.2.2.2.2.2.2.2.2.2.2.2.2.2.2 r k hrB hk
        refine sg_73_12 (d := 7) ⟨fun y => absurd y (Nat.pos_iff_ne_zero.mp hz), fun _ => ⟨ax_kd (xf h1).1, ax_use (ct_74 h1 hB hrB h7B hk hn1) rfl fun w σ2 hw => ?_⟩⟩
        obtain ⟨rfl, L2, h2, f2, eL2⟩ := hw
        refine sg_73_25 (d := 7) ?_
        rw [nI_1, show 8 - (n + 1) + 1 = 8 - n by omega]
        exact ih (by omega) _ σ2 L2 _ h2 (mJJ_beg hB hrB hk h7B _) hrB h7B (fr_trans f1 f2) (eL2.trans eL) eF
  exact sg_73_0 (d := 7) (lp 8 (Nat.le_refl _) A σ L aU h hJJ hr h7 (fr_refl σ L) rfl rfl)
theorem ct_77 (h : ax_rc e0 σ x L A) (hJJ : mJJ A) (hr : r < mR A) (hG : mG A r) : ax_ok e0 mo 9 77 [aR x, aR (gU L 0 r)] σ (fun w σ2 => w = aU ∧ ∃ L', ax_rc e0 σ2 x L' (mFol A r) ∧ cl_fr σ L σ2 L' 0 0 ∧ L'.2.2 = L.2.2) := by
  obtain ⟨u1, u2, u3, u4, u5, u6, u7, u8⟩ := ru_at h hr
  have hu : mU A 11 r < 16 := by have := (hJJ.1.1.2.2.2.2.1 r hr).1; omega
  have f0 := (xf h).1
  refine sg_77_0 (d := 8) ⟨ax_kd u1, ?_⟩
  rw [u6]
  refine pk_eq (mU A 11 r) 7 (fun q => ⟨ax_kd f0, ax_use (ct_73 h hJJ hr q) rfl fun w σ2 hw => ?_⟩) (fun q => ⟨ax_kd f0, ax_use (ct_78 h hJJ.1.1 hr) rfl fun w σ2 hw => ?_⟩)
  · obtain ⟨rfl, L2, h2, f2, e2⟩ := hw
    refine sg_77_14 (d := 8) (sg_77_22 (d := 8) ⟨rfl, L2, ?_, f2, e2⟩)
    unfold mFol
    rw [q]
    exact h2
  · obtain ⟨rfl, h2, f2⟩ := hw
    refine sg_77_22 (d := 8) ⟨rfl, L, ?_, f2, rfl⟩
    have e8 : mU A 11 r = 8 := hG.resolve_left q
    have e : mFol A r = mEnc A r := by
      unfold mFol
      rw [nb_ne q]
      show mFin A r = _
      unfold mFin mEnc
      rw [e8]
      rfl
    rw [e]
    exact h2
end
end AXRI
