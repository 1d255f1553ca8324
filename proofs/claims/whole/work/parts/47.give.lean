/-! The reference's take, finish and lose. -/
section AXMU
section
variable {e0 mo : Nat} {σ : SG} {m : Nat} {M : Nat → Nat} {A : MS} {r k j p w : Nat}
theorem rm_w1 (h : ax_rm σ m M A) (hw : w < 4) {v : Int32} {n : Nat} (hv : v = nI n - 1) : ax_rm (putI σ 20 w (M 20) v) m M (mUp A 50 w 0 0 n) := by
  refine rm_wk h (ax_but.refl σ m M 20 24).put (fun f r' k' j' hf => mUp_f A hf r' k' j') rfl fun x hx => ?_
  rw [gI_putI]
  by_cases z : x = w
  · rw [if_pos ⟨rfl, z, rfl⟩, z, show mW (mUp A 50 w 0 0 n) w = n from mUp_at A 50 w 0 0 n]; exact hv
  · rw [if_neg (fun y => z y.2.1), show mW (mUp A 50 w 0 0 n) x = mW A x from mUp_ne A (fun y => z y.1)]
    exact h.2.2.2.2.2.2.2.2.1 x hx
theorem as_105 (h : ax_rm σ m M A) (hI : mB A) (hT : mT A) (hp : pR p < mR A) (hG : mG A (pR p)) {s : Nat} : ax_ok e0 mo 0 105 [aR m, aI (nI p), aI (nI s)] σ (fun w σ2 => w = aU ∧ ax_rm σ2 m M (mUpp A 40 p s) ∧ ax_mf m M σ σ2) := by
  obtain ⟨p1, p2, p3⟩ := pl_of p
  have c := ct_105 (e0 := e0) (mo := mo) (s := s) h hI hT hp p2 p3 hG
  rw [p1] at c
  exact c
theorem as_104 (h : ax_rm σ m M A) (hI : mB A) (hT : mT A) (hp : pR p < mR A) : ax_ok e0 mo 0 104 [aR m, aI (nI p)] σ (fun w σ2 => w = aI (nI (mJp A 0 p)) ∧ σ2 = σ) := by
  obtain ⟨p1, p2, p3⟩ := pl_of p
  have c := ct_104 (e0 := e0) (mo := mo) h hI hT hp p2 p3
  rw [p1] at c
  exact c
theorem as_112 (h : ax_rm σ m M A) (hI : mB A) (hT : mT A) (hp : pR p < mR A) (hG : mG A (pR p)) (hq : (mQ A).length < 800) : ax_ok e0 mo 1 112 [aR m, aI (nI p)] σ (fun w σ2 => w = aU ∧ ax_rm σ2 m M ((mUpp A 40 p 1).1, mQ A ++ [p], mE A) ∧ ax_mf m M σ σ2) := by
  obtain ⟨p1, p2, p3⟩ := pl_of p
  have c := ct_112 (e0 := e0) (mo := mo) h hI hT hp p2 p3 hG hq
  rw [p1] at c
  exact c
theorem as_146 (h : ax_rm σ m M A) (hI : mB A) (hT : mT A) (hE : mEB A) (hp : pR p < mR A) (hk : pK p < mN A) (hG : mG A (pR p)) : ax_ok e0 mo 2 146 [aR m, aI (nI p)] σ (fun w σ2 => w = aU ∧ ax_rm σ2 m M (mRes A (pR p) (pK p) (pJ p)) ∧ ax_mf m M σ σ2) := by
  obtain ⟨p1, p2, p3⟩ := pl_of p
  have c := ct_146 (e0 := e0) (mo := mo) h hI hT hE hp hk p3 hG
  rw [p1] at c
  exact c
theorem as_147 (h : ax_rm σ m M A) (hI : mB A) (hE : mEB A) (hp : pR p < mR A) (hk : pK p < mN A) : ax_ok e0 mo 2 147 [aR m, aI (nI p)] σ (fun w σ2 => w = aU ∧ ax_rm σ2 m M (mSto A (pR p) (pK p)) ∧ ax_mf m M σ σ2) := by
  obtain ⟨p1, p2, p3⟩ := pl_of p
  have c := ct_147 (e0 := e0) (mo := mo) h hI hE hp hk p3
  rw [p1] at c
  exact c
theorem rm_jobp (h : ax_rm σ m M A) (hI : mB A) (hp : pR p < mR A) : sgR σ 7 17 m = M 17 ∧ ax_in σ 20 (M 17) (nI p) ∧ (nI p).toNatClampNeg = p ∧ sgI σ 20 p (M 17) = nI (mC A (pR p) (pK p) (pJ p)) := by
  obtain ⟨p1, p2, p3⟩ := pl_of p
  have c := rm_job h hI hp p2 p3
  rw [p1] at c
  exact c
theorem rm_jupp (h : ax_rm σ m M A) (hp : pR p < mR A) (hG : mG A (pR p)) {f v : Nat} (hf : f < 4) : ax_rm (putI σ 20 p (M 17) (nI (mC (mUpp A (40 + f) p v) (pR p) (pK p) (pJ p)))) m M (mUpp A (40 + f) p v) := by
  obtain ⟨p1, p2, p3⟩ := pl_of p
  have c := rm_jup (v := v) h hp p2 p3 hG hf
  rw [p1] at c
  exact c
theorem mC_up1 (A : MS) (r k j : Nat) : mC (mUp A 41 r k j (mJ A 1 r k j + 1)) r k j = mC A r k j + 512 := by
  unfold mC
  rw [show mJ (mUp A 41 r k j (mJ A 1 r k j + 1)) 1 r k j = mJ A 1 r k j + 1 from mUp_at A 41 r k j _, show mJ (mUp A 41 r k j (mJ A 1 r k j + 1)) 0 r k j = mJ A 0 r k j from mUp_f A (by decide) r k j, show mJ (mUp A 41 r k j (mJ A 1 r k j + 1)) 2 r k j = mJ A 2 r k j from mUp_f A (by decide) r k j, show mJ (mUp A 41 r k j (mJ A 1 r k j + 1)) 3 r k j = mJ A 3 r k j from mUp_f A (by decide) r k j]
  omega
theorem mC_up2 (A : MS) (r k j : Nat) : mC (mUp A 42 r k j (mJ A 2 r k j + 1)) r k j = mC A r k j + 128 := by
  unfold mC
  rw [show mJ (mUp A 42 r k j (mJ A 2 r k j + 1)) 2 r k j = mJ A 2 r k j + 1 from mUp_at A 42 r k j _, show mJ (mUp A 42 r k j (mJ A 2 r k j + 1)) 0 r k j = mJ A 0 r k j from mUp_f A (by decide) r k j, show mJ (mUp A 42 r k j (mJ A 2 r k j + 1)) 1 r k j = mJ A 1 r k j from mUp_f A (by decide) r k j, show mJ (mUp A 42 r k j (mJ A 2 r k j + 1)) 3 r k j = mJ A 3 r k j from mUp_f A (by decide) r k j]
  omega
theorem mB_w (hI : mB A) (q : List Nat) (es : List (Nat × Nat)) (w v : Nat) : mB (mUp (A.1, q, es) 50 w 0 0 v) := mB_cong (fun f r' k' j' a b => mUp_f _ (by omega) r' k' j') (fun r' hr' => (hI.2.2.2.2.1 r' hr').1) (fun r' k' j' hr' => hI.2.2.2.2.2 r' k' j' hr') hI
theorem ct_135 (h : ax_rm σ m M A) (hJJ : mJJ A) {n : Nat} (hT : mTn A n) (hn : n < 1000) (x : Int32) : ax_ok e0 mo 3 135 [aR m, aI x] σ (rf_an m M σ (oTake A x)) := by
  obtain ⟨⟨hI, hP, hN⟩, hGo, hQ, hW, hJ, hE, h60⟩ := id hJJ
  have hR := hI.1.2
  have hql := mQ_len hGo hQ
  unfold oTake
  refine sg_135_0 (d := 2) ?_
  refine ax_use0 (ct_134 x) rfl ?_
  refine sg_135_4 (d := 2) ⟨fun q => ⟨ax_kd h.1.1, ?_⟩, fun q => ?_⟩
  · have e : inB x 4 = false := bI0 q
    rw [q, e]
    refine ax_use (as_87 h false false) rfl fun w σ2 hw => ?_
    obtain ⟨rfl, h2, f2, t2⟩ := hw
    exact sg_135_29 (d := 2) ⟨fun _ => ⟨fun z => (Nat.one_ne_zero z).elim, t2, h2, f2⟩, fun z => absurd rfl z⟩
  · have e : inB x 4 = true := bI1 q
    obtain ⟨w, hw4, rfl⟩ := inB_yes e (by decide)
    obtain ⟨g1, g2, g3, g4⟩ := rm_w h hw4
    have hws := mW_small hW hI w
    have q1 : bI (decide ((0 : Int32) ≤ nI w ∧ nI w ≤ 3)) = bI true := congrArg (fun b : Bool => bI b) e
    refine ⟨ax_kd h.1.1, ?_⟩
    rw [g1, g3, g4, e, q1]
    refine ⟨g2, fun z => ⟨ax_kd h.1.1, ?_⟩, fun z => ⟨ax_kd h.1.1, ?_⟩⟩
    · have hw0 := (nI_m1 (by omega)).mp z
      rw [hw0]
      refine ax_use (as_87 h true true) rfl fun v σ2 hv => ?_
      obtain ⟨rfl, h2, f2, t2⟩ := hv
      refine sg_135_29 (d := 2) ⟨fun y => absurd y (by decide), fun _ => ⟨ax_kd h2.1.1, ?_⟩⟩
      rw [h2.2.1.2.2.1]
      refine pk_eq (mQ A).length 0 (fun y => ?_) (fun y => ⟨ax_kd h2.1.1, ?_⟩)
      · rw [y]
        exact ⟨fun _ => rfl, t2, h2, f2⟩
      · rw [nb_ne y]
        obtain ⟨p, qs, hqs⟩ : ∃ p qs, mQ A = p :: qs := by
          cases hq : mQ A with
          | nil => rw [hq] at y; exact absurd rfl y
          | cons p qs => exact ⟨p, qs, rfl⟩
        have hpm : p ∈ mQ A := by rw [hqs]; exact List.mem_cons_self ..
        obtain ⟨p1, p2, p3⟩ := hQ.2 p hpm
        have hp0 := mQ_small hQ hI hpm
        have hd : (mQ A).getD 0 0 = p := by rw [hqs]; rfl
        obtain ⟨s1, s2, s3⟩ := rm_q h2 (i := 0) (by decide)
        have s2 : ax_in σ2 20 (M 18) 0 := s2
        have s4 : sgI σ2 20 (0 : Int32).toNatClampNeg (M 18) = nI p := by
          have := h2.2.2.2.2.2.2.2.1 0 (by omega)
          rw [hd] at this
          exact this
        rw [s1, s4, hd]
        refine ⟨s2, ax_kd h2.1.1, ?_⟩
        refine ax_use (ct_113 h2 (p := p) (by omega) (by omega) fun a ha => by have := mQ_small hQ hI ha; omega) rfl fun v σ3 hv => ?_
        obtain ⟨rfl, h3, f3⟩ := hv
        have et : (mQ A).filter (fun x => !(Nat.beq x p)) = (mQ A).tail := by
          have hn1 := hQ.1
          rw [hqs] at hn1 ⊢
          exact filt_tail hn1
        rw [et] at h3
        obtain ⟨u1, u2, u3, u4⟩ := rm_w h3 hw4
        have a20 : ax_mr 20 := mr_of (by decide) (by decide) (by decide) (by decide)
        have a17 : ax_mr 17 := mr_of (by decide) (by decide) (by decide) (by decide)
        have h4 := rm_w1 h3 hw4 (v := nI p) (n := p + 1) (nI_pred p).symm
        have f4 := (f3.row a20 (nI p) (Or.inl rfl) (i := w))
        refine sg_135_55 (d := 2) ⟨ax_kd h3.1.1, ?_⟩
        rw [u1, u3]
        refine ⟨u2, ax_kd h3.1.1, ?_⟩
        refine ax_use (as_105 (s := 2) h4 (mB_w hI _ _ _ _) (mTn_T hT (by omega)) p1 p2) rfl fun v σ5 hv => ?_
        obtain ⟨rfl, h5, f5⟩ := hv
        have hB5 : mB (mUpp (mUp (A.1, (mQ A).tail, mE A) 50 w 0 0 (p + 1)) 40 p 2) := by
          have := (mJJ_tk hJJ hw4 hw0 hqs).1.1
          refine mB_cong (A := mTk A w p) (fun f r' k' j' a b => (mUp_f _ (by omega) r' k' j').symm) (fun r' hr' => this.2.2.2.2.1 r' hr' |>.1) (fun r' k' j' hr' => this.2.2.2.2.2 r' k' j' hr') this
        obtain ⟨v1, v2, v3, v4⟩ := rm_jobp (p := p) h5 hB5 p1
        refine sg_135_68 (d := 2) ⟨ax_kd h5.1.1, ?_⟩
        have ew : nI (mC (mUpp (mUp (A.1, (mQ A).tail, mE A) 50 w 0 0 (p + 1)) 40 p 2) (pR p) (pK p) (pJ p)) + 512 = nI (mC (mTk A w p) (pR p) (pK p) (pJ p)) := by
          have := mC_up1 (mUpp (mUp (A.1, (mQ A).tail, mE A) 50 w 0 0 (p + 1)) 40 p 2) (pR p) (pK p) (pJ p)
          rw [show (512 : Int32) = nI 512 from rfl, nI_add, ← this]
          rfl
        rw [v1, v3, v4, ew]
        have h6 : ax_rm (putI σ5 20 p (M 17) (nI (mC (mTk A w p) (pR p) (pK p) (pJ p)))) m M (mTk A w p) := rm_jupp (f := 1) (v := mJp A 1 p + 1) h5 p1 p2 (by decide)
        have hJ6 := mJJ_tk hJJ hw4 hw0 hqs
        have hT6 := mTn_T (mTk_T (w := w) (p := p) hT) (by omega)
        have hkN : pK p < mN A := by
          have hk : pK p < mU A 16 (pR p) := by
            rcases Nat.lt_or_ge (pK p) (mU A 16 (pR p)) with q | q
            · exact q
            · rw [hJ.1 _ _ (pJ p) p1 q] at p3; cases p3
          exact Nat.lt_of_lt_of_le hk (hI.2.2.2.2.1 _ p1).2.2.2.2.2.2
        refine ⟨v2, v2, ax_kd h5.1.1, ax_use (as_146 h6 hJ6.1.1 hT6 hJ6.2.2.2.2.2.1 p1 hkN p2) rfl fun v σ7 hv => ?_⟩
        obtain ⟨rfl, h7, f7⟩ := hv
        have fall := (f4.trans f5).trans ((ax_mf.refl m M σ5).row a17 (nI (mC (mTk A w p) (pR p) (pK p) (pJ p))) (Or.inl rfl) (i := p) |>.trans f7)
        refine sg_135_85 (d := 2) ⟨by decide, fun _ => ?_, fall.2.trans t2, ?_, f2.trans fall.1⟩
        · rw [show (16 : Int32) = nI 16 from rfl, pk_rem (by omega) (by decide) (by decide)]
          show _ = aI (nI (pJ p))
          rfl
        · exact h7
    · have hw0 : mW A w ≠ 0 := fun y => z ((nI_m1 (by omega)).mpr y)
      rw [nb_ne hw0]
      refine ax_use (as_87 h true false) rfl fun v σ2 hv => ?_
      obtain ⟨rfl, h2, f2, t2⟩ := hv
      exact sg_135_29 (d := 2) ⟨fun _ => ⟨fun z => (Nat.succ_ne_zero 1 z).elim, t2, h2, f2⟩, fun y => absurd rfl y⟩
def hasW (A : MS) (x : Int32) : Bool := inB x 4 && !(Nat.beq (mW A x.toNatClampNeg) 0)
theorem ct_136 (h : ax_rm σ m M A) (hW : mWB A) (x : Int32) : ax_ok e0 mo 2 136 [aR m, aI x] σ (fun w σ2 => w = aI (bI (hasW A x)) ∧ ax_rm σ2 m M A ∧ rf_w m M σ σ2 ∧ sgI σ2 7 23 m = nI (bif inB x 4 then (bif Nat.beq (mW A x.toNatClampNeg) 0 then 2 else 0) else 1)) := by
  unfold hasW
  refine sg_136_0 (d := 1) ?_
  refine ax_use0 (ct_134 x) rfl ?_
  refine sg_136_4 (d := 1) ⟨fun q => ⟨ax_kd h.1.1, ?_⟩, fun q => ?_⟩
  · have e : inB x 4 = false := bI0 q
    rw [q, e]
    refine ax_use (as_87 h false false) rfl fun w σ2 hw => ?_
    obtain ⟨rfl, h2, f2, t2⟩ := hw
    exact sg_136_29 (d := 1) ⟨Or.inl rfl, rfl, h2, f2, t2⟩
  · have e : inB x 4 = true := bI1 q
    obtain ⟨w, hw4, rfl⟩ := inB_yes e (by decide)
    obtain ⟨g1, g2, g3, g4⟩ := rm_w h hw4
    have hws := hW w
    have q1 : bI (decide ((0 : Int32) ≤ nI w ∧ nI w ≤ 3)) = bI true := congrArg (fun b : Bool => bI b) e
    refine ⟨ax_kd h.1.1, ?_⟩
    rw [g1, g3, g4, e, q1]
    refine ⟨g2, fun z => ⟨ax_kd h.1.1, ?_⟩, fun z => ⟨ax_kd h.1.1, ?_⟩⟩
    · have hw0 := (nI_m1 (by omega)).mp z
      rw [hw0]
      refine ax_use (as_87 h true false) rfl fun v σ2 hv => ?_
      obtain ⟨rfl, h2, f2, t2⟩ := hv
      exact sg_136_29 (d := 1) ⟨Or.inl rfl, rfl, h2, f2, t2⟩
    · have hw0 : mW A w ≠ 0 := fun y => z ((nI_m1 (by omega)).mpr y)
      rw [nb_ne hw0]
      refine ax_use (as_87 h true true) rfl fun v σ2 hv => ?_
      obtain ⟨rfl, h2, f2, t2⟩ := hv
      exact sg_136_29 (d := 1) ⟨Or.inr rfl, rfl, h2, f2, t2⟩
theorem ct_138 (h : ax_rm σ m M A) (hI : mB A) (hT : mT A) (hr : r < mR A) (hk : k < 8) (hG : mG A r) (hql : (mQ A).length ≤ 800) (hqs : ∀ x, x ∈ mQ A → x < 2 ^ 31) : ax_ok e0 mo 3 138 [aR m, aI (nI r), aI (nI k)] σ (fun w σ2 => w = aU ∧ ax_rm σ2 m M (mStp A r k) ∧ ax_mf m M σ σ2) := by
  have hR := hI.1.2
  unfold mStp
  refine sg_138_0 (d := 2) ?_
  cases es : mStop A r k with
  | false =>
    refine sg_138_2 (d := 2) ⟨fun _ => ⟨ax_kd h.1.1, ?_⟩, fun z => absurd (by decide) z⟩
    refine ax_use0 (ct_109 h hI hT hr hk) rfl ?_
    rw [es]
    exact sg_138_14 (d := 2) ⟨fun _ => ⟨rfl, h, ax_mf.refl _ _ _⟩, fun z => absurd rfl z⟩
  | true =>
    refine ax_down (N := 16) (fun t => ∀ (σ1 : SG) (v : AV), ax_rm σ1 m M (mStpT A r k t) → ax_mf m M σ σ1 → ax_wp e0 mo 3 138 (2, [aR m, aI (nI r), aI (nI k), aI (nI t), v], []) σ1 _) ?_ (fun t ht ih => ?_) 0 (Nat.zero_le _) σ aU (by rw [mStpT_0]; exact h) (ax_mf.refl _ _ _)
    · intro σ1 v h1 f1
      exact sg_138_2 (d := 2) ⟨fun q => absurd q (by decide), fun _ => ⟨rfl, h1, f1⟩⟩
    · intro σ1 v h1 f1
      have bT : mB (mStpT A r k t) := mB_stpT hI
      have tT : mT (mStpT A r k t) := fun r' k' j' => by
        rw [show mJ (mStpT A r k t) 1 r' k' j' = mJ A 1 r' k' j' from mStpT_f A (by decide) r' k' j']
        exact hT r' k' j'
      have gT : mG (mStpT A r k t) r := by
        unfold mG
        rw [show mU (mStpT A r k t) 11 r = mU A 11 r from mStpT_f A (by decide) r 0 0]
        exact hG
      have est : mJ (mStpT A r k t) 0 r k t = mJ A 0 r k t := by
        rw [mStpT_J A hk ht, if_neg]
        intro z
        unfold mStx at z
        rw [show pJ (pl r k t) = t from (pl_parts hk ht).2.2, not_true_b (fun w => Nat.lt_irrefl _ (Nat.blt_eq.mp w)), Bool.and_false, Bool.false_and] at z
        cases z
      have hst : mJ A 0 r k t ≤ 8 := (hI.2.2.2.2.2 r k t hr).1
      refine sg_138_2 (d := 2) ⟨fun _ => ⟨ax_kd h1.1.1, ?_⟩, fun z => absurd (nI_lt (b := 16) ht (by decide)) z⟩
      refine ax_use0 (ct_109 h1 bT tT hr hk) rfl ?_
      rw [mStop_stpT hk, es]
      refine sg_138_14 (d := 2) ⟨fun z => absurd z (by decide), fun _ => ?_⟩
      refine ax_use0 ct_103 rfl ?_
      refine sg_138_23 (d := 2) ⟨ax_kd h1.1.1, ?_⟩
      refine ax_use0 (ct_104 h1 bT tT hr hk ht) rfl ?_
      rw [est]
      refine sg_138_31 (d := 2) (pk_eq (mJ A 0 r k t) 1 (fun z => ⟨ax_kd h1.1.1, ?_⟩) (fun z => ?_))
      · refine ax_use (ct_105 (s := 7) h1 bT tT hr hk ht gT) rfl fun w σ2 hw => ?_
        obtain ⟨rfl, h2, f2⟩ := hw
        have hlen := List.length_filter_le (fun p => !(mStx A r k t p)) (mQ A)
        refine sg_138_43 (d := 2) ⟨ax_kd h2.1.1, ?_⟩
        refine ax_use (ct_113 h2 (p := pl r k t) (by show 128 * r + 16 * k + t < _; omega) (by show ((mQ A).filter (fun p => !(mStx A r k t p))).length ≤ 800; omega) fun a ha => hqs a (List.mem_filter.mp ha).1) rfl fun w σ3 hw => ?_
        obtain ⟨rfl, h3, f3⟩ := hw
        refine sg_138_49 (d := 2) ?_
        rw [nI_1]
        refine ih σ3 _ ?_ ((f1.trans f2).trans f3)
        rw [mStpT_yes hk ht z]
        exact h3
      · refine sg_138_49 (d := 2) ?_
        rw [nI_1]
        refine ih σ1 _ ?_ f1
        rw [mStpT_no hk ht z]
        exact h1
end
end AXMU
