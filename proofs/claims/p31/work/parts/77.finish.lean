/-! The class: finish, take. -/
section AXRR
/-- what a job restored: nothing, where its stage has no key -/
def mJR (A : MS) : Prop := ∀ r k j, r < mR A → k < mU A 16 r → mP A 6 r k = 0 → mJ A 3 r k j = 0
section
variable {e0 mo : Nat} {σ σ' σ1 : SG} {x : Nat} {L : LY} {A A' : MS} {r k j p w : Nat}
theorem mB_40 (h : mB A) {s : Nat} (hs : s ≤ 8) : mB (mUp A 40 r k j s) := by
  refine mB_cong (fun f r' k' j' a b => mUp_f A (by omega) r' k' j') (fun r' hr' => (h.2.2.2.2.1 r' hr').1) (fun r' k' j' hr' => ?_) h
  obtain ⟨h1, h2, h3⟩ := h.2.2.2.2.2 r' k' j' hr'
  refine ⟨?_, h2, h3⟩
  show (if _ then s else _) ≤ 8
  split
  · exact hs
  · exact h1
theorem mU_fin0 (A : MS) (w p : Nat) (b : Bool) : mU (mFin0 A w p b) 16 (pR p) = mU A 16 (pR p) := by
  unfold mFin0
  cases b with
  | true =>
    show (mSto (mUpp (mFre A w) 40 p 3) (pR p) (pK p)).1 16 (pR p) 0 0 = _
    rw [mSto_1]
    rfl
  | false =>
    cases (Nat.beq (mU A 11 (pR p)) 7 && !(mStop A (pR p) (pK p)) && Nat.blt (mJp A 2 p) (mS A 5 (pK p))) with
    | true => rfl
    | false =>
      show mU (mStp (mUpp (mFre A w) 40 p 4) (pR p) (pK p)) 16 (pR p) = _
      unfold mStp
      cases mStop (mUpp (mFre A w) 40 p 4) (pR p) (pK p)
      · rfl
      · rfl
theorem ct_54 (h : ax_rc e0 σ x L A) (hJJ : mJJ A) (v : Int32) (b : Bool) : ax_wp e0 mo 10 54 (0, ax_entry 54 [aR x, aI v, aI (bI b)], []) σ (cl_po e0 σ x L [0, 2] (oFinish A v b)) := by
  obtain ⟨f0, f1, f2, f3, f4, f5, f6, f7, f8⟩ := xf h
  obtain ⟨⟨hI, hP, hN⟩, hGo, hQ, hW, hJI, hE, h60⟩ := id hJJ
  refine sg_54_0 (d := 9) ⟨ax_kd f0, ax_useX (ct_66 h hJJ v) rfl (fun u σ2 hu => ?_) (fun E σ2 hu => ?_)⟩
  · obtain ⟨hy, rfl, rfl⟩ := hu
    obtain ⟨w, p, rfl, hw4, cw, hw, hwp, p1, p2, p3, p4⟩ := hasW_yes hW hI hy
    have hk := (mNk hI hJI p1 (by rw [p3]; decide)).1
    have hj := (pl_of p).2.2
    obtain ⟨i1, -, v1⟩ := wk_at h hw4
    obtain ⟨a1, a2, a3, a4, b1, b2, b3, c1⟩ := pt_at h (r := pR p) (k := pK p) p1 hk
    obtain ⟨u1, u2, u3, u4, u5, u6, u7, u8⟩ := ru_at h (r := pR p) p1
    have j1 := h.2.2.2.2.2.1 (pR p) (pK p) (pJ p) p1 hk hj (by rw [show mJ A 0 (pR p) (pK p) (pJ p) = 2 from p3]; decide)
    have kj : sgK σ2 (gJp L p) = (2, 7) := j1.1.2.1
    have kp : sgR σ2 2 0 (gJp L p) = gP L 0 (pR p) (pK p) := j1.1.2.2.1
    have hB := wk_free (w := w) h
    have IB : mB (mFre A w) := mB_fre hI
    have s2 : mJ (mFre A w) 0 (pR p) (pK p) (pJ p) = 2 := p3
    have eO : oFinish A (nI w) b = ((0, nI (mSt (mJp (mFin0 A w p b) 0 p))), mFol (mFin0 A w p b) (pR p)) := by
      unfold oFinish
      unfold hasW at hy
      rw [Bool.and_eq_true] at hy
      rw [hy.1, cw, hwp, nb_ne (show mW A w ≠ 0 by omega)]
      rfl
    have jl := mJJ_fin0 hJJ hw b
    obtain ⟨r1, r2⟩ := mR_fin0 A w p b
    have pl1 : pR p < mR (mFin0 A w p b) := by rw [r1]; exact p1
    have pl2 : mG (mFin0 A w p b) (pR p) := by unfold mG; rw [r2]; exact p2
    have pl3 : pK p < mU (mFin0 A w p b) 16 (pR p) := by rw [mU_fin0]; exact hk
    have n12 : mJp (mFin0 A w p b) 0 p ≠ 0 ∧ mJp (mFin0 A w p b) 0 p ≠ 8 := by
      rcases fin0_st A w p b with c | c | c <;> rw [c] <;> decide
    have last : ∀ (σ3 : SG) (La : LY) (l2 : Int32) (ca cu : Nat), ca ≤ 390 ∧ cu ≤ 6000 → ax_rc e0 σ3 x La (mFin0 A w p b) → cl_fr σ2 L σ3 La ca cu → La.2.2.1 = L.2.2.1 → ax_wp e0 mo 10 54 (54, [aR x, aI (nI w), aI l2, aR (gJp L p)], []) σ3 (cl_po e0 σ2 x L [0, 2] (oFinish A (nI w) b)) := by
      intro σ3 La l2 ca cu hcc h3 f3 eL
      have eg : gU La 0 (pR p) = gU L 0 (pR p) := by show La.2.2.1 1 _ _ _ = L.2.2.1 1 _ _ _; rw [eL]
      have egp : gP La 0 (pR p) (pK p) = gP L 0 (pR p) (pK p) := by show La.2.2.1 10 _ _ _ = L.2.2.1 10 _ _ _; rw [eL]
      have egj : gJ La (pR p) (pK p) (pJ p) = gJp L p := by show La.2.2.1 20 _ _ _ = L.2.2.1 20 _ _ _; rw [eL]
      have jx := h3.2.2.2.2.2.1 (pR p) (pK p) (pJ p) pl1 pl3 hj n12.2
      have jk := jx.1.2.1
      have jp := jx.1.2.2.1
      obtain ⟨q1, q2, -⟩ := pt_at h3 pl1 pl3
      have uk := (ru_at h3 pl1).1
      rw [egj] at jk jp
      rw [egp] at jp q1 q2
      rw [eg] at q2 uk
      have c := ct_77 (mo := mo) h3 jl pl1 pl2
      rw [eg] at c
      refine sg_54_54 (d := 9) ⟨ax_kd jk, ?_⟩
      rw [jp, q2]
      refine ⟨ax_kd q1, ax_kd (xf h3).1, ax_use c rfl fun v σ4 hv => ?_⟩
      obtain ⟨rfl, L', h4, f4, e4⟩ := hv
      obtain ⟨e1, e2⟩ := end_an (X := [0, 2]) jl pl1 pl2 pl3 n12.1 n12.2 h4 (fr_trans f3 f4) (by omega) ((congrArg Prod.fst e4).trans eL)
      rw [eO]
      exact sg_54_65 (d := 9) ⟨ax_kd e1, e2⟩
    have fB : cl_fr σ2 L (putR σ2 24 w (lF L 3) 0) L 0 0 := fr_R (fr_refl σ2 L) (by decide)
    rw [cw, hwp]
    refine sg_54_5 (d := 9) ⟨ax_kd f0, ?_⟩
    rw [f4, cw]
    refine ⟨⟨Or.inl rfl, i1⟩, fun z => ⟨ax_kd f0, ?_⟩, fun z => ⟨ax_kd kj, ax_kd f0, ax_kd kj, ?_⟩⟩
    · obtain rfl : b = false := bI0 z
      refine ax_use (ct_76 hB hJJ hw) rfl fun v σ3 hv => ?_
      obtain ⟨rfl, L', h3, f3, e3⟩ := hv
      exact last σ3 L' _ 0 0 (by decide) h3 (fr_trans fB f3) (congrArg Prod.fst e3)
    · obtain rfl : b = true := bI1 z
      rw [kp, a2, a3, f5]
      refine ⟨ax_kd a1, ax_kd kj, ax_kd a1, ax_kd u1, ?_⟩
      rw [u4]
      have h3 := rc_jst hB IB (r := pR p) (k := pK p) (j := pJ p) p1 hk hj (by rw [s2]; decide) (by rw [s2]; decide) (s := 3) (by decide) (fun c => absurd c (by decide)) (v := 3) rfl
      have h6 : mP A 6 (pR p) (pK p) = mS A 6 (pK p) := (hN _ p1 p2).2 _ 6 hk (by decide) (by decide)
      refine ⟨ax_kd f7, ax_use (ct_2 h3 (mB_40 IB (by decide)) hE p1 hk h6) rfl fun v σ3 hv => ?_⟩
      obtain ⟨rfl, L', h4, f4', e4⟩ := hv
      refine sg_54_46 (d := 9) (last σ3 L' _ _ _ (by decide) h4 (fr_trans (fr_I fB (by decide)) f4') e4)
  · obtain ⟨hn, rfl, rfl⟩ := hu
    unfold oFinish
    unfold hasW at hn
    cases c : inB v 4 with
    | false => exact ⟨Nat.le_refl 1, rfl, rfl⟩
    | true =>
      rw [c] at hn
      have z : Nat.beq (mW A v.toNatClampNeg) 0 = true := by
        cases y : Nat.beq (mW A v.toNatClampNeg) 0 with
        | true => rfl
        | false => rw [y] at hn; cases hn
      rw [z]
      exact ⟨Nat.le_succ 1, rfl, rfl⟩
/-- attempts are counted -/
theorem rc_att (h : ax_rc e0 σ x L A) (hI : mB A) (hr : r < mR A) (hk : k < mU A 16 r) (hj : j < 16) (hs : mJ A 0 r k j ≠ 8) {n : Nat} {v : Int32} (hv : v = nI n) : ax_rc e0 (putI σ 2 3 (gJ L r k j) v) x L (mUp A 41 r k j n) := by
  have e41 : mJ (mUp A 41 r k j n) 1 r k j = n := mUp_at A 41 r k j n
  refine rc_job h hI hr hk hj hs ((ax_F.refl _ _).putI fun _ => ⟨rfl, rfl⟩) (fun f r k j a => mUp_f A (by omega) r k j) rfl (fun f r' k' j' _ z => mUp_ne A z) hs ?_
  obtain ⟨⟨a1, a2, a3, a4⟩, a5, a6, a7, a8, a9⟩ := h.2.2.2.2.2.1 r k j hr hk hj hs
  unfold rcJ1
  rw [e41]
  refine ⟨⟨a1, a2, a3, ?_⟩, ?_, ?_, fun y => ?_, ?_, ?_⟩
  · rw [gI_putI, if_neg (fun z => absurd z.2.1 (by decide))]; exact a4
  · rw [gI_putI, if_neg (fun z => absurd z.2.1 (by decide))]; exact a5
  · rw [gI_putI, if_pos ⟨rfl, rfl, rfl⟩]; exact hv
  · rw [gI_putI, if_neg (fun z => absurd z.2.1 (by decide))]; exact a7 y
  · rw [gI_putI, if_neg (fun z => absurd z.2.1 (by decide))]; exact a8
  · rw [gI_putI, if_neg (fun z => absurd z.2.1 (by decide))]; exact a9
/-- what it restored is noted -/
theorem rc_rst (h : ax_rc e0 σ x L A) (hI : mB A) (hr : r < mR A) (hk : k < mU A 16 r) (hj : j < 16) (hs : mJ A 0 r k j ≠ 8) {n : Nat} {v : Int32} (hv : v = nI n - 1) : ax_rc e0 (putI σ 2 5 (gJ L r k j) v) x L (mUp A 43 r k j n) := by
  have e43 : mJ (mUp A 43 r k j n) 3 r k j = n := mUp_at A 43 r k j n
  refine rc_job h hI hr hk hj hs ((ax_F.refl _ _).putI fun _ => ⟨rfl, rfl⟩) (fun f r k j a => mUp_f A (by omega) r k j) rfl (fun f r' k' j' _ z => mUp_ne A z) hs ?_
  obtain ⟨⟨a1, a2, a3, a4⟩, a5, a6, a7, a8, a9⟩ := h.2.2.2.2.2.1 r k j hr hk hj hs
  unfold rcJ1
  rw [e43]
  refine ⟨⟨a1, a2, a3, ?_⟩, ?_, ?_, fun y => ?_, ?_, ?_⟩
  · rw [gI_putI, if_neg (fun z => absurd z.2.1 (by decide))]; exact a4
  · rw [gI_putI, if_neg (fun z => absurd z.2.1 (by decide))]; exact a5
  · rw [gI_putI, if_neg (fun z => absurd z.2.1 (by decide))]; exact a6
  · rw [gI_putI, if_neg (fun z => absurd z.2.1 (by decide))]; exact a7 y
  · rw [gI_putI, if_pos ⟨rfl, rfl, rfl⟩]; exact hv
  · rw [gI_putI, if_neg (fun z => absurd z.2.1 (by decide))]; exact a9
theorem ct_53 (h : ax_rc e0 σ x L A) (hJJ : mJJ A) (hJR : mJR A) (v : Int32) : ax_wp e0 mo 7 53 (0, ax_entry 53 [aR x, aI v], []) σ (cl_po e0 σ x L [0, 2] (oTake A v)) := by
  obtain ⟨f0, f1, f2, f3, f4, f5, f6, f7, f8⟩ := xf h
  obtain ⟨⟨hI, hP, hN⟩, hGo, hQ, hW, hJI, hE, h60⟩ := id hJJ
  have li := h.2.1.2.2.1
  have hql := mQ_len hGo hQ
  have hok := qOK_of hJJ
  unfold oTake
  refine sg_53_0 (d := 6) ⟨ax_kd f0, ck_use (ct_68 h v) rfl (fun q e1 hq => ?_) (fun e => ?_)⟩
  · subst hq
    obtain ⟨w, hw4, rfl⟩ := inB_yes e1 (by decide)
    obtain ⟨i1, cw, v1⟩ := wk_at h hw4
    rw [e1, cw]
    refine sg_53_5 (d := 6) ⟨ax_kd f0, ?_⟩
    rw [f4, cw, v1]
    refine ⟨i1, fun z => ⟨ax_kd f0, ?_⟩, fun z => ⟨by decide, ?_⟩⟩
    · have hw : mW A w = 0 := by
        by_cases c : mW A w = 0
        · exact c
        · rw [if_neg c] at z
          obtain ⟨q1, q2, q3, q4, q5, q6⟩ := wj_at h hJJ (w := w) (p := mW A w - 1) (by omega)
          exact absurd z (Nat.pos_iff_ne_zero.mp q6.1.1)
      rw [f3, hw]
      refine ⟨ax_kd li.1, ax_use0 (ct_158 li) rfl ?_⟩
      show ax_wp e0 mo 7 53 _ σ (cl_po e0 σ x L [0, 2] (bif Nat.beq (mQ A).length 0 then ((0, -1), A) else ((0, nI (pJ ((mQ A).getD 0 0))), mRes (mTk A w ((mQ A).getD 0 0)) (pR ((mQ A).getD 0 0)) (pK ((mQ A).getD 0 0)) (pJ ((mQ A).getD 0 0)))))
      by_cases n0 : (mQ A).length = 0
      · rw [if_pos n0, nb_eq n0]
        exact sg_53_31 (d := 6) ⟨fun q => absurd q (by decide), fun _ => po_rd h rfl rfl rfl⟩
      · rw [if_neg n0, nb_ne n0]
        refine sg_53_31 (d := 6) ⟨fun _ => ⟨ax_kd f0, ?_⟩, fun q => absurd rfl q⟩
        rw [f3]
        have kq : ∀ j, j < (mQ A).length → (sgK σ (lQ L A j)).1 < 9 := fun j hj => by
          obtain ⟨q1, q2, q3⟩ := hok _ (mQ_at hj)
          have := (h.2.2.2.2.2.1 _ _ _ q1 q2 (pl_of _).2.2 q3).1.2.1
          show (sgK σ (gJ L (pR ((mQ A).getD j 0)) (pK ((mQ A).getD j 0)) (pJ ((mQ A).getD j 0)))).1 < 9
          rw [this]; show (2 : Nat) < 9; decide
        refine ⟨ax_kd li.1, ax_use (ct_164 li (i := 0) (by omega) kq) rfl fun u σ2 hu => ?_⟩
        obtain ⟨rfl, g1, g2, g3, g4⟩ := hu
        obtain ⟨p, q, hpq⟩ : ∃ p q, mQ A = p :: q := by
          cases hc : mQ A with
          | nil => rw [hc] at n0; exact absurd rfl n0
          | cons p q => exact ⟨p, q, rfl⟩
        have e0' : (mQ A).getD 0 0 = p := by rw [hpq]; rfl
        have eQ0 : lQ L A 0 = gJp L p := by show gJp L ((mQ A).getD 0 0) = _; rw [e0']
        rw [eQ0, e0']
        have hpm : p ∈ mQ A := by rw [hpq]; exact List.mem_cons_self ..
        obtain ⟨p1, p2, p3⟩ := hQ.2 p hpm
        have p3 : mJp A 0 p = 1 := p3
        have hk := (hok p hpm).2.1
        have hj := (pl_of p).2.2
        have hF : ax_F (fun k _ q => (k = 8 ∧ q = lF L 2) ∨ (k = 23 ∧ q = lF L 8)) σ σ2 := g2.mono fun k i q _ z => by
          rcases z with z | z
          · exact Or.inl ⟨z.1, z.2.1⟩
          · exact Or.inr z
        have hA0 : ax_rc e0 σ2 x L (A.1, (mQ A).tail, mE A) := by
          have := rc_qu h (q' := (mQ A).tail) (el := lF L 8) (cap := lC L 2) hF (by
            rw [List.length_tail]
            refine li_f g1 fun i hi => ?_
            show (if i < 0 then lQ L A i else lQ L A (i + 1)) = gJp L ((mQ A).tail.getD i 0)
            rw [if_neg (Nat.not_lt_zero i), hpq]
            show gJp L ((mQ A).getD (i + 1) 0) = gJp L (q.getD i 0)
            rw [hpq]; rfl) (Or.inl ⟨rfl, rfl⟩)
          rw [lQu_id] at this
          exact this
        have fA0 : cl_fr σ L σ2 L 0 0 := ⟨hF.mono fun k i q _ z => by
          rcases z with z | z
          · rw [z.1]; exact ⟨by decide, by decide, by decide, by decide, by decide⟩
          · rw [z.1]; exact ⟨by decide, by decide, by decide, by decide, by decide⟩, by omega, by omega⟩
        obtain ⟨x0, -, -, -, x4, x5, x6, x7, x8⟩ := xf hA0
        have hA1 : ax_rc e0 (putR σ2 24 w (lF L 3) (gJp L p)) x L (mUp (A.1, (mQ A).tail, mE A) 50 w 0 0 (p + 1)) := by
          refine rc_wk hA0 (fun f r k j a => mUp_f _ a r k j) rfl fun u hu => ?_
          by_cases y : u = w
          · rw [if_pos y, y, show mW (mUp (A.1, (mQ A).tail, mE A) 50 w 0 0 (p + 1)) w = p + 1 from mUp_at _ 50 w 0 0 (p + 1), if_neg (Nat.succ_ne_zero p)]
            rfl
          · rw [if_neg y, show mW (mUp (A.1, (mQ A).tail, mE A) 50 w 0 0 (p + 1)) u = mW A u from mUp_ne _ (fun z => y z.1)]
            exact (wk_at hA0 hu).2.2
        have I1 : mB (mUp (A.1, (mQ A).tail, mE A) 50 w 0 0 (p + 1)) := mB_w hI (mQ A).tail (mE A) w (p + 1)
        have s1 : mJ (mUp (A.1, (mQ A).tail, mE A) 50 w 0 0 (p + 1)) 0 (pR p) (pK p) (pJ p) = 1 := p3
        have hA2 := rc_jst hA1 I1 (r := pR p) (k := pK p) (j := pJ p) p1 hk hj (by rw [s1]; decide) (by rw [s1]; decide) (s := 2) (by decide) (fun _ => by rw [s1]; decide) (v := 2) rfl
        have j1 := h.2.2.2.2.2.1 (pR p) (pK p) (pJ p) p1 hk hj (by rw [show mJ A 0 (pR p) (pK p) (pJ p) = 1 from p3]; decide)
        have jA0 := hA0.2.2.2.2.2.1 (pR p) (pK p) (pJ p) p1 hk hj (by rw [show mJ (A.1, (mQ A).tail, mE A) 0 (pR p) (pK p) (pJ p) = 1 from p3]; decide)
        have kj : sgK σ2 (gJp L p) = (2, 7) := jA0.1.2.1
        have kp : sgR σ2 2 0 (gJp L p) = gP L 0 (pR p) (pK p) := jA0.1.2.2.1
        have ka : sgI σ2 2 3 (gJp L p) = nI (mJp A 1 p) := jA0.2.2.1
        obtain ⟨a1, a2, a3, a4, b1, b2, b3, c1⟩ := pt_at hA0 (r := pR p) (k := pK p) p1 hk
        obtain ⟨u1, u2, u3, u4, u5, u6, u7, u8⟩ := ru_at hA0 (r := pR p) p1
        have s2 : mJ (mUpp (mUp (A.1, (mQ A).tail, mE A) 50 w 0 0 (p + 1)) 40 p 2) 0 (pR p) (pK p) (pJ p) = 2 := mUp_at _ 40 (pR p) (pK p) (pJ p) 2
        have I2 : mB (mUpp (mUp (A.1, (mQ A).tail, mE A) 50 w 0 0 (p + 1)) 40 p 2) := mB_40 I1 (by decide)
        have hA3 := rc_att hA2 I2 (r := pR p) (k := pK p) (j := pJ p) p1 hk hj (by rw [s2]; decide) (n := mJp A 1 p + 1) (v := nI (mJp A 1 p) + 1) (nI_1 _)
        have hT : ax_rc e0 (putI (putI (putR σ2 24 w (lF L 3) (gJp L p)) 2 2 (gJp L p) 2) 2 3 (gJp L p) (nI (mJp A 1 p) + 1)) x L (mTk A w p) := hA3
        have JT := mJJ_tk hJJ hw4 hw hpq
        have h6 : mP (mTk A w p) 6 (pR p) (pK p) = mS (mTk A w p) 6 (pK p) := (hN _ p1 p2).2 _ 6 hk (by decide) (by decide)
        have sT : mJp (mTk A w p) 0 p = 2 := (mUp_f _ (by decide) (pR p) (pK p) (pJ p)).trans (mUp_at _ 40 (pR p) (pK p) (pJ p) 2)
        refine sg_53_44 (d := 6) ⟨Or.inr (ax_kd kj), ax_kd x0, ?_⟩
        rw [x4, cw, ka, kp, a2, a3, u4, x5]
        refine ⟨⟨Or.inr (Or.inr (ax_kd kj)), (wk_at hA0 hw4).1⟩, ax_kd kj, ax_kd kj, ax_kd kj, ax_kd x0, ax_kd kj, ax_kd a1, ax_kd kj, ax_kd a1, ax_kd u1, ax_kd x7, ax_use (ct_1 hT JT.1.1 JT.2.2.2.2.2.1 p1 hk h6) rfl fun u σ3 hu => ?_⟩
        obtain ⟨rfl, L', h4, f4', e4⟩ := hu
        have eg : gJ L' (pR p) (pK p) (pJ p) = gJp L p := by show L'.2.2.1 20 _ _ _ = L.2.2.1 20 _ _ _; rw [e4]
        have eR1 : (resE (mTk A w p) (pR p) (pK p)).1 = (mTk A w p).1 := by
          unfold resE
          cases Nat.beq (mS (mTk A w p) 6 (pK p)) 0 <;> rfl
        have eX : ∀ f r k j, (resE (mTk A w p) (pR p) (pK p)).1 f r k j = (mTk A w p).1 f r k j := fun f r k j => by rw [eR1]
        have IR : mB (resE (mTk A w p) (pR p) (pK p)) := by
          refine mB_cong (fun f r k j _ _ => by rw [eR1]) (fun r hr => ?_) (fun r k j hr => ?_) JT.1.1
          · rw [show mU (resE (mTk A w p) (pR p) (pK p)) 11 r = mU (mTk A w p) 11 r from eX 11 r 0 0]; exact (JT.1.1.2.2.2.2.1 r hr).1
          · rw [show mJ (resE (mTk A w p) (pR p) (pK p)) 0 r k j = mJ (mTk A w p) 0 r k j from eX 40 r k j, show mJ (resE (mTk A w p) (pR p) (pK p)) 2 r k j = mJ (mTk A w p) 2 r k j from eX 42 r k j, show mJ (resE (mTk A w p) (pR p) (pK p)) 3 r k j = mJ (mTk A w p) 3 r k j from eX 43 r k j]; exact JT.1.1.2.2.2.2.2 r k j hr
        have q1 : pR p < mR (resE (mTk A w p) (pR p) (pK p)) := by show _ < (resE (mTk A w p) (pR p) (pK p)).1 10 0 0 0; rw [eR1]; exact p1
        have q2 : pK p < mU (resE (mTk A w p) (pR p) (pK p)) 16 (pR p) := by show _ < (resE (mTk A w p) (pR p) (pK p)).1 16 (pR p) 0 0; rw [eR1]; exact hk
        have q3 : mJ (resE (mTk A w p) (pR p) (pK p)) 0 (pR p) (pK p) (pJ p) = 2 := by show (resE (mTk A w p) (pR p) (pK p)).1 40 _ _ _ = 2; rw [eR1]; exact sT
        have jz := h4.2.2.2.2.2.1 (pR p) (pK p) (pJ p) q1 q2 hj (by rw [q3]; decide)
        have kz := jz.1.2.1
        have nz := jz.1.2.2.2
        rw [eg] at kz nz
        refine sg_53_95 (d := 6) ⟨ax_kd kz, ax_kd kz, ?_, ?_, L', ?_, fr_le (fr_I (fr_trans (fr_I (fr_I (fr_R fA0 (by decide)) (by decide)) (by decide)) f4') (by decide)) (by decide) (by decide)⟩
        · rfl
        · rw [nz]; rfl
        · show ax_rc e0 _ x L' (mRes (mTk A w p) (pR p) (pK p) (pJ p))
          by_cases z6 : mS (mTk A w p) 6 (pK p) = 0
          · have ev : resV (mTk A w p) (pR p) (pK p) = nI 0 - 1 := by unfold resV; rw [nb_eq z6]; rfl
            have := rc_rst h4 IR (r := pR p) (k := pK p) (j := pJ p) q1 q2 hj (by rw [q3]; decide) (n := 0) ev
            rw [eg] at this
            have e3 : resE (mTk A w p) (pR p) (pK p) = mTk A w p := by unfold resE; rw [nb_eq z6]; rfl
            have e5 : mRes (mTk A w p) (pR p) (pK p) (pJ p) = mTk A w p := by unfold mRes; rw [nb_eq z6]; rfl
            rw [e3] at this
            have z3 : mJ (mTk A w p) 3 (pR p) (pK p) (pJ p) = 0 := hJR _ _ _ p1 hk (by rw [show mP A 6 (pR p) (pK p) = mS A 6 (pK p) from (hN _ p1 p2).2 _ 6 hk (by decide) (by decide)]; exact z6)
            rw [mUp_same z3] at this
            rw [e5]
            exact this
          · have ev : resV (mTk A w p) (pR p) (pK p) = nI ((bif Nat.beq (mFn (mTk A w p) (pR p) (pK p)).1 0 then 0 else (mFn (mTk A w p) (pR p) (pK p)).2) + 1) - 1 := by
              unfold resV
              rw [nb_ne z6, nI_p1 (Nat.succ_ne_zero _)]
              rfl
            have := rc_rst h4 IR (r := pR p) (k := pK p) (j := pJ p) q1 q2 hj (by rw [q3]; decide) ev
            rw [eg] at this
            have e3 : resE (mTk A w p) (pR p) (pK p) = ((mTk A w p).1, mQ (mTk A w p), bif Nat.beq (mFn (mTk A w p) (pR p) (pK p)).1 0 then mE (mTk A w p) else mRot (mE (mTk A w p)) ((mFn (mTk A w p) (pR p) (pK p)).1 - 1)) := by unfold resE; rw [nb_ne z6]; rfl
            have e5 : mRes (mTk A w p) (pR p) (pK p) (pJ p) = mUp ((mTk A w p).1, mQ (mTk A w p), bif Nat.beq (mFn (mTk A w p) (pR p) (pK p)).1 0 then mE (mTk A w p) else mRot (mE (mTk A w p)) ((mFn (mTk A w p) (pR p) (pK p)).1 - 1)) 43 (pR p) (pK p) (pJ p) ((bif Nat.beq (mFn (mTk A w p) (pR p) (pK p)).1 0 then 0 else (mFn (mTk A w p) (pR p) (pK p)).2) + 1) := by unfold mRes; rw [nb_ne z6]; rfl
            rw [e3] at this
            rw [e5]
            exact this
    · have hw : mW A w ≠ 0 := fun c => z (if_pos c)
      rw [nb_ne hw]
      exact ⟨Nat.le_succ 1, rfl, rfl⟩
  · rw [e]
    exact ⟨Nat.le_refl 1, rfl, rfl⟩
end
end AXRR
