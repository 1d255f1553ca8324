/-! The class: a job failed; a worker is lost. -/
section AXRJ
theorem mStx_iff {A : MS} {r k t p : Nat} : mStx A r k t p = true ↔ pR p = r ∧ pK p = k ∧ pJ p < t ∧ mJp A 0 p = 1 := by
  unfold mStx
  simp only [Bool.and_eq_true, Nat.beq_eq, Nat.blt_eq, and_assoc]
theorem mStJ_p (A : MS) (r k p : Nat) : mJp (mStJ A r k 16) 0 p = if mStx A r k 16 p = true then 7 else mJp A 0 p := by
  show (if (40 : Nat) = 40 ∧ pR p = r ∧ pK p = k ∧ pJ p < 16 ∧ A.1 40 r k (pJ p) = 1 then 7 else A.1 40 (pR p) (pK p) (pJ p)) = _
  by_cases z : mStx A r k 16 p = true
  · obtain ⟨z1, z2, z3, z4⟩ := mStx_iff.mp z
    rw [if_pos z, if_pos]
    refine ⟨rfl, z1, z2, z3, ?_⟩
    rw [← z1, ← z2]; exact z4
  · rw [if_neg z, if_neg]
    rintro ⟨-, z1, z2, z3, z4⟩
    exact z (mStx_iff.mpr ⟨z1, z2, z3, by show A.1 40 (pR p) (pK p) (pJ p) = 1; rw [z1, z2]; exact z4⟩)
theorem stJ_all {A : MS} {r k : Nat} (hQ : mQI A) (hk : k < 8) : ((mStJ A r k 16).1, (mQ A).filter (fun p => Nat.beq (mJp (mStJ A r k 16) 0 p) 1), mE A) = mStpT A r k 16 := by
  refine Prod.ext (funext fun f => funext fun r' => funext fun k' => funext fun j' => ?_) (Prod.ext (List.filter_congr fun p hp => ?_) rfl)
  · by_cases a : f = 40
    · subst a
      by_cases z : k' < 8 ∧ j' < 16
      · obtain ⟨p1, p2, p3⟩ := pl_parts (r := r') z.1 z.2
        have := mStJ_p A r k (pl r' k' j')
        rw [show mJp (mStJ A r k 16) 0 (pl r' k' j') = mJ (mStJ A r k 16) 0 r' k' j' by show mJ _ 0 (pR (pl r' k' j')) (pK (pl r' k' j')) (pJ (pl r' k' j')) = _; rw [show pR (pl r' k' j') = r' from p1, show pK (pl r' k' j') = k' from p2, show pJ (pl r' k' j') = j' from p3], show mJp A 0 (pl r' k' j') = mJ A 0 r' k' j' by show mJ _ 0 (pR (pl r' k' j')) (pK (pl r' k' j')) (pJ (pl r' k' j')) = _; rw [show pR (pl r' k' j') = r' from p1, show pK (pl r' k' j') = k' from p2, show pJ (pl r' k' j') = j' from p3]] at this
        exact this.trans (mStpT_J A z.1 z.2).symm
      · refine Eq.trans ?_ (mStpT_J' A z).symm
        refine if_neg fun y => z ⟨?_, y.2.2.2.1⟩
        rw [y.2.2.1]; exact hk
    · exact (mStJ_f A a r' k' j').trans (mStpT_f A a r' k' j').symm
  · rw [mStJ_p]
    have e1 : mJp A 0 p = 1 := (hQ.2 p hp).2.2
    cases mStx A r k 16 p with
    | true => rfl
    | false => rw [if_neg (by decide), e1]; rfl
theorem stopP_eq {A : MS} {r k : Nat} (hN : mNow A) (hr : r < mR A) (hG : mG A r) (hk : k < mU A 16 r) : mStopP A r k = mStop A r k := by
  unfold mStopP mStop
  rw [(hN r hr hG).2 k 7 hk (by decide) (by decide)]
theorem adv_nz {r r' k' j' : Nat} : ∀ (n : Nat) {A : MS}, mJ A 0 r' k' j' ≠ 0 → mJ (mAdv n A r) 0 r' k' j' = mJ A 0 r' k' j' := by
  intro n
  induction n with
  | zero => intro A _; rfl
  | succ n ih =>
    intro A h
    cases q : mLow A r with
    | none => rw [mAdv_none q]
    | some k =>
      rw [mAdv_some q]
      have e := mBeg_nz A (r := r) (k := k) (g := mGd A r k) (t := 16) h
      exact (ih (by rw [e]; exact h)).trans e
theorem fin_J (A : MS) (r f r' k' j' : Nat) (hf : f ≠ 11) : (mFin A r).1 f r' k' j' = A.1 f r' k' j' := by
  unfold mFin
  cases Nat.beq (mU A 11 r) 7
  · cases Nat.beq (mRun A r (mU A 16 r)) 0
    · rfl
    · exact mUp_f A hf r' k' j'
  · cases mAll (mOver A r) (mU A 16 r)
    · rfl
    · exact mUp_f A hf r' k' j'
theorem fol_nz {A : MS} {r r' k' j' : Nat} (h : mJ A 0 r' k' j' ≠ 0) : mJ (mFol A r) 0 r' k' j' = mJ A 0 r' k' j' := by
  unfold mFol
  rw [show mJ (mFin (bif Nat.beq (mU A 11 r) 7 then mAdv 8 A r else A) r) 0 r' k' j' = mJ (bif Nat.beq (mU A 11 r) 7 then mAdv 8 A r else A) 0 r' k' j' from fin_J _ r 40 r' k' j' (by decide)]
  cases Nat.beq (mU A 11 r) 7
  · rfl
  · exact adv_nz 8 h
section
variable {e0 mo : Nat} {σ σ' σ1 : SG} {x : Nat} {L : LY} {A A' : MS} {r k j p w : Nat}
theorem rc_jst5 (h : ax_rc e0 σ x L A) (hI : mB A) (hr : r < mR A) (hk : k < mU A 16 r) (hj : j < 16) (hs : mJ A 0 r k j ≠ 8) : ax_rc e0 (putI (putI σ 2 2 (gJ L r k j) 5) 2 6 (gJ L r k j) 0) x L (mUp A 40 r k j 5) := by
  have e40 : mJ (mUp A 40 r k j 5) 0 r k j = 5 := mUp_at A 40 r k j 5
  refine rc_job h hI hr hk hj hs (((ax_F.refl _ _).putI fun _ => ⟨rfl, rfl⟩).putI fun _ => ⟨rfl, rfl⟩) (fun f r k j a => mUp_f A (by omega) r k j) rfl (fun f r' k' j' _ z => mUp_ne A z) (by rw [e40]; decide) ?_
  obtain ⟨⟨a1, a2, a3, a4⟩, a5, a6, a7, a8, a9⟩ := h.2.2.2.2.2.1 r k j hr hk hj hs
  unfold rcJ1
  rw [e40]
  refine ⟨⟨a1, a2, a3, ?_⟩, ?_, ?_, fun y => absurd y (by decide), ?_, ?_⟩
  · rw [gI_putI, if_neg (fun z => absurd z.2.1 (by decide)), gI_putI, if_neg (fun z => absurd z.2.1 (by decide))]; exact a4
  · rw [gI_putI, if_neg (fun z => absurd z.2.1 (by decide)), gI_putI, if_pos ⟨rfl, rfl, rfl⟩]; rfl
  · rw [gI_putI, if_neg (fun z => absurd z.2.1 (by decide)), gI_putI, if_neg (fun z => absurd z.2.1 (by decide))]; exact a6
  · rw [gI_putI, if_neg (fun z => absurd z.2.1 (by decide)), gI_putI, if_neg (fun z => absurd z.2.1 (by decide))]; exact a8
  · rw [gI_putI, if_pos ⟨rfl, rfl, rfl⟩]; rfl
/-- a failed job, its failures counted -/
theorem rc_fail (h : ax_rc e0 σ x L A) (hI : mB A) (hr : r < mR A) (hk : k < mU A 16 r) (hj : j < 16) (hs : mJ A 0 r k j = 2) {v : Int32} : ax_rc e0 (putI (putI σ 2 4 (gJ L r k j) v) 2 2 (gJ L r k j) 4) x L (mUp A 40 r k j 4) := by
  have e40 : mJ (mUp A 40 r k j 4) 0 r k j = 4 := mUp_at A 40 r k j 4
  refine rc_job h hI hr hk hj (by rw [hs]; decide) (((ax_F.refl _ _).putI fun _ => ⟨rfl, rfl⟩).putI fun _ => ⟨rfl, rfl⟩) (fun f r k j a => mUp_f A (by omega) r k j) rfl (fun f r' k' j' _ z => mUp_ne A z) (by rw [e40]; decide) ?_
  obtain ⟨⟨a1, a2, a3, a4⟩, a5, a6, a7, a8, a9⟩ := h.2.2.2.2.2.1 r k j hr hk hj (by rw [hs]; decide)
  rw [hs] at a9
  unfold rcJ1
  rw [e40]
  refine ⟨⟨a1, a2, a3, ?_⟩, ?_, ?_, fun y => absurd y (by decide), ?_, ?_⟩
  · rw [gI_putI, if_neg (fun z => absurd z.2.1 (by decide)), gI_putI, if_neg (fun z => absurd z.2.1 (by decide))]; exact a4
  · rw [gI_putI, if_pos ⟨rfl, rfl, rfl⟩]; rfl
  · rw [gI_putI, if_neg (fun z => absurd z.2.1 (by decide)), gI_putI, if_neg (fun z => absurd z.2.1 (by decide))]; exact a6
  · rw [gI_putI, if_neg (fun z => absurd z.2.1 (by decide)), gI_putI, if_neg (fun z => absurd z.2.1 (by decide))]; exact a8
  · rw [gI_putI, if_neg (fun z => absurd z.2.1 (by decide)), gI_putI, if_neg (fun z => absurd z.2.1 (by decide))]; exact a9
/-- failures are counted -/
theorem rc_fcnt (h : ax_rc e0 σ x L A) (hI : mB A) (hr : r < mR A) (hk : k < mU A 16 r) (hj : j < 16) (hs : mJ A 0 r k j ≠ 8) {n : Nat} {v : Int32} (hv : v = nI n) : ax_rc e0 (putI σ 2 4 (gJ L r k j) v) x L (mUp A 42 r k j n) := by
  have e42 : mJ (mUp A 42 r k j n) 2 r k j = n := mUp_at A 42 r k j n
  refine rc_job h hI hr hk hj hs ((ax_F.refl _ _).putI fun _ => ⟨rfl, rfl⟩) (fun f r k j a => mUp_f A (by omega) r k j) rfl (fun f r' k' j' _ z => mUp_ne A z) hs ?_
  obtain ⟨⟨a1, a2, a3, a4⟩, a5, a6, a7, a8, a9⟩ := h.2.2.2.2.2.1 r k j hr hk hj hs
  unfold rcJ1
  rw [e42]
  refine ⟨⟨a1, a2, a3, ?_⟩, ?_, ?_, fun y => ?_, ?_, ?_⟩
  · rw [gI_putI, if_neg (fun z => absurd z.2.1 (by decide))]; exact a4
  · rw [gI_putI, if_neg (fun z => absurd z.2.1 (by decide))]; exact a5
  · rw [gI_putI, if_neg (fun z => absurd z.2.1 (by decide))]; exact a6
  · rw [gI_putI, if_pos ⟨rfl, rfl, rfl⟩]; exact hv
  · rw [gI_putI, if_neg (fun z => absurd z.2.1 (by decide))]; exact a8
  · rw [gI_putI, if_neg (fun z => absurd z.2.1 (by decide))]; exact a9
theorem wk_free (h : ax_rc e0 σ x L A) : ax_rc e0 (putR σ 24 w (lF L 3) 0) x L (mFre A w) := by
  refine rc_wk h (fun f r k j a => mUp_f A a r k j) rfl fun u hu => ?_
  by_cases y : u = w
  · rw [if_pos y, y, show mW (mFre A w) w = 0 from mUp_at A 50 w 0 0 0, if_pos rfl]
  · rw [if_neg y, show mW (mFre A w) u = mW A u from mUp_ne A (fun z => y z.1)]
    exact (wk_at h hu).2.2
theorem mB_fre (h : mB A) : mB (mFre A w) := mB_w h (mQ A) (mE A) w 0
theorem mB_fcnt (h : mB A) {n : Nat} (hn : n ≤ 2) : mB (mUp A 42 r k j n) := by
  refine mB_cong (fun f r' k' j' a b => mUp_f A (by omega) r' k' j') (fun r' hr' => (h.2.2.2.2.1 r' hr').1) (fun r' k' j' hr' => ?_) h
  obtain ⟨h1, h2, h3⟩ := h.2.2.2.2.2 r' k' j' hr'
  refine ⟨h1, ?_, h3⟩
  show (if _ then n else _) ≤ 2
  split
  · exact hn
  · exact h2
theorem ct_76 (h : ax_rc e0 σ x L (mFre A w)) (hJJ : mJJ A) (hw : mW A w = p + 1) : ax_ok e0 mo 7 76 [aR x, aR (gJp L p)] σ (fun v σ2 => v = aU ∧ ∃ L', ax_rc e0 σ2 x L' (mFin0 A w p false) ∧ cl_fr σ L σ2 L' 0 0 ∧ L'.2.2 = L.2.2) := by
  obtain ⟨⟨hI, hP, hN⟩, hGo, hQ, hW, hJI, hE, h60⟩ := id hJJ
  obtain ⟨p1, p2, p3⟩ := hW.2.2 w p hw
  have p3 : mJp A 0 p = 2 := p3
  have hk := (mNk hI hJI p1 (by rw [p3]; decide)).1
  have hj := (pl_of p).2.2
  have hk8 := (pl_of p).2.1
  have hql := mQ_len hGo hQ
  have hok := qOK_of hJJ
  have IB : mB (mFre A w) := mB_fre hI
  have PB : mPB (mFre A w) := hP
  have s2 : mJ (mFre A w) 0 (pR p) (pK p) (pJ p) = 2 := p3
  obtain ⟨a1, a2, a3, a4, b1, b2, b3, c1⟩ := pt_at h (r := pR p) (k := pK p) p1 hk
  obtain ⟨u1, u2, u3, u4, u5, u6, u7, u8⟩ := ru_at h (r := pR p) p1
  have j1 := h.2.2.2.2.2.1 (pR p) (pK p) (pJ p) p1 hk hj (by rw [s2]; decide)
  have kj : sgK σ (gJp L p) = (2, 7) := j1.1.2.1
  have kp : sgR σ 2 0 (gJp L p) = gP L 0 (pR p) (pK p) := j1.1.2.2.1
  have kf : sgI σ 2 4 (gJp L p) = nI (mJp A 2 p) := j1.2.2.2.1 (by rw [s2]; decide)
  have hf2 : mJp A 2 p ≤ 2 := (hI.2.2.2.2.2 _ _ _ p1).2.1
  have hm5 : mS A 5 (pK p) ≤ 2 := (hI.2.2.1 (pK p)).1
  have hu : mU A 11 (pR p) < 16 := by have := (hI.2.2.2.2.1 _ p1).1; omega
  have XJ : mJJ (mUpp (mFre A w) 40 p 4) := mJJ_give hJJ hw (by decide) (by decide)
  have sX : mStopP (mUpp (mFre A w) 40 p 4) (pR p) (pK p) = mStop (mUpp (mFre A w) 40 p 4) (pR p) (pK p) := stopP_eq XJ.1.2.2 p1 p2 hk
  have sB : mStopP (mFre A w) (pR p) (pK p) = mStop A (pR p) (pK p) := by
    have := stopP_eq hN p1 p2 hk
    exact this
  have hX := rc_fail h IB (r := pR p) (k := pK p) (j := pJ p) p1 hk hj s2 (v := nI (mJp A 2 p) + 1)
  have fX : cl_fr σ L (putI (putI σ 2 4 (gJp L p) (nI (mJp A 2 p) + 1)) 2 2 (gJp L p) 4) L 0 0 := fr_I (fr_I (fr_refl σ L) (by decide)) (by decide)
  have bad : (Nat.beq (mU A 11 (pR p)) 7 && !(mStop A (pR p) (pK p)) && Nat.blt (mJp A 2 p) (mS A 5 (pK p))) = false → ∀ c : Int32, ax_wp e0 mo 7 76 (73, [aR x, aR (gJp L p), aR (gP L 0 (pR p) (pK p)), aI c], [aI (bI (mStopP (mUpp (mFre A w) 40 p 4) (pR p) (pK p)))]) (putI (putI σ 2 4 (gJp L p) (nI (mJp A 2 p) + 1)) 2 2 (gJp L p) 4) (ax_ct (fun v σ2 => v = aU ∧ ∃ L', ax_rc e0 σ2 x L' (mFin0 A w p false) ∧ cl_fr σ L σ2 L' 0 0 ∧ L'.2.2 = L.2.2) (fun _ _ => False)) := by
    intro e c
    have eF : mFin0 A w p false = mStp (mUpp (mFre A w) 40 p 4) (pR p) (pK p) := by
      unfold mFin0
      rw [e]
      rfl
    rw [eF, sX]
    unfold mStp
    refine sg_76_73 (d := 6) ⟨fun q => ?_, fun q => ⟨ax_kd a1, ?_⟩⟩
    · rw [bI0 q]
      exact sg_76_84 (d := 6) ⟨rfl, L, hX, fX, rfl⟩
    · rw [bI1 q]
      refine ax_use (ct_16 hX XJ.1.1 p1 hk) rfl fun v σ2 hv => ?_
      obtain ⟨rfl, h2, f2⟩ := hv
      refine sg_76_80 (d := 6) ⟨ax_kd (xf h2).1, ax_use (ct_81 h2 (mB_stJ XJ.1.1) (show (mQ A).length ≤ 900 by omega) (fun q hq => ?_)) rfl fun v σ3 hv => ?_⟩
      · obtain ⟨q1, q2, q3⟩ := qOK_of XJ q hq
        refine ⟨q1, q2, ?_⟩
        rw [mStJ_p]
        split
        · decide
        · exact q3
      · obtain ⟨rfl, h3, f3⟩ := hv
        refine sg_76_84 (d := 6) ⟨rfl, L, ?_, fr_trans (fr_trans fX f2) f3, rfl⟩
        have e := stJ_all (A := mUpp (mFre A w) 40 p 4) (r := pR p) (k := pK p) XJ.2.2.1 hk8
        show ax_rc e0 σ3 x L (mStpT (mUpp (mFre A w) 40 p 4) (pR p) (pK p) 16)
        rw [← e]
        exact h3
  have c15 := ct_15 (mo := mo) hX XJ.1.1 XJ.1.2.1 p1 hk
  refine sg_76_0 (d := 6) ⟨ax_kd kj, ?_⟩
  rw [kp, a2, kf, u6]
  refine ⟨ax_kd a1, ax_kd u1, pk_eq (mU A 11 (pR p)) 7 (fun q7 => ⟨ax_kd a1, ax_use0 (ct_15 h IB PB p1 hk) rfl ?_⟩) (fun q7 => ⟨ax_kd kj, ax_kd kj, fun _ => ⟨ax_kd kj, ax_kd a1, ax_use0 c15 rfl (bad (by rw [nb_ne q7]; rfl) 0)⟩, fun q => absurd rfl q⟩)⟩
  rw [sB]
  refine sg_76_21 (d := 6) ⟨fun q => ⟨ax_kd kj, ax_kd a1, ?_⟩, fun q => ⟨ax_kd kj, ax_kd kj, fun _ => ⟨ax_kd kj, ax_kd a1, ?_⟩, fun q => absurd rfl q⟩⟩
  · rw [a3, kf, b3 5 (by decide) (by decide), show mP (mFre A w) 5 (pR p) (pK p) = mS A 5 (pK p) from (hN _ p1 p2).2 _ 5 hk (by decide) (by decide)]
    refine ⟨ax_kd b1, pk_lt (mJp A 2 p) (mS A 5 (pK p)) (fun y => ⟨ax_kd kj, ax_kd kj, fun z => absurd z (by decide), fun _ => ⟨ax_kd (xf h).1, ?_⟩⟩) (fun y => ⟨ax_kd kj, ax_kd kj, fun _ => ⟨ax_kd kj, ax_kd a1, ax_use0 c15 rfl (bad ?_ 0)⟩, fun z => absurd rfl z⟩)⟩
    · have hY := rc_fcnt h IB (r := pR p) (k := pK p) (j := pJ p) p1 hk hj (by rw [s2]; decide) (n := mJp A 2 p + 1) (v := nI (mJp A 2 p) + 1) (nI_1 _)
      refine ax_use (ct_75 (p := p) hY (mB_fcnt IB (by omega)) (show (mQ A).length ≤ 900 by omega) hok p1 hk (show mJp A 0 p ≤ 2 by rw [p3]; decide)) rfl fun v σ2 hv => ?_
      obtain ⟨rfl, L', g1, g2, g3, -⟩ := hv
      refine sg_76_63 (d := 6) ⟨rfl, L', ?_, fr_trans (fr_I (fr_refl σ L) (by decide)) g2, g3⟩
      have eF : mFin0 A w p false = ((mUpp (mUpp (mFre A w) 42 p (mJp A 2 p + 1)) 40 p 1).1, mQ A ++ [p], mE A) := by
        unfold mFin0
        rw [q7, bI0 q, Nat.blt_eq.mpr y]
        rfl
      rw [eF]
      exact g1
    · rw [not_true_b (b := Nat.blt (mJp A 2 p) (mS A 5 (pK p))) (fun z => absurd (Nat.blt_eq.mp z) (by omega)), Bool.and_false]
  · rw [kf]
    refine ax_use0 c15 rfl (bad ?_ 0)
    rw [bI1 q]
    simp
end
end AXRJ
